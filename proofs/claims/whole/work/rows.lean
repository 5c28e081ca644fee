section
-- ===== PART A: goes FIRST, ahead of the names: the tables' words, and 'selects' of the private methods out of them =====
/-- a private method of a class that the tables say can be made, by its rows of tables_1 -/
def lw_okq (q : MethodName × Nat) : Prop := (q.1.cls ≠ "java/lang/invoke/MethodHandle" ∧ q.1.cls ≠ "java/lang/invoke/VarHandle") ∧ Cond.instantiable q.1.cls q.2 ∈ tables_1 ∧ Cond.privateMethod q.1 ∈ tables_1 ∧ Cond.instanceMethod q.1 ∈ tables_1
theorem lw_p0 : lw_okq (⟨"FaceRounds$History", "dropOldest", "()V"⟩, 2) := ⟨⟨by decide +kernel, by decide +kernel⟩, List.mem_of_getElem? (i := 77) (by decide +kernel), List.mem_of_getElem? (i := 187) (by decide +kernel), List.mem_of_getElem? (i := 188) (by decide +kernel)⟩
theorem lw_p1 : lw_okq (⟨"FaceRounds$PointingText", "readPointing", "()Z"⟩, 7) := ⟨⟨by decide +kernel, by decide +kernel⟩, List.mem_of_getElem? (i := 94) (by decide +kernel), List.mem_of_getElem? (i := 255) (by decide +kernel), List.mem_of_getElem? (i := 256) (by decide +kernel)⟩
theorem lw_p2 : lw_okq (⟨"FaceRounds$PointingText", "readTarget", "()I"⟩, 7) := ⟨⟨by decide +kernel, by decide +kernel⟩, List.mem_of_getElem? (i := 94) (by decide +kernel), List.mem_of_getElem? (i := 259) (by decide +kernel), List.mem_of_getElem? (i := 260) (by decide +kernel)⟩
theorem lw_p3 : lw_okq (⟨"FaceRounds$PointingText", "digit", "()I"⟩, 7) := ⟨⟨by decide +kernel, by decide +kernel⟩, List.mem_of_getElem? (i := 94) (by decide +kernel), List.mem_of_getElem? (i := 263) (by decide +kernel), List.mem_of_getElem? (i := 264) (by decide +kernel)⟩
theorem lw_p4 : lw_okq (⟨"FaceRounds$PointingText", "readFace", "()I"⟩, 7) := ⟨⟨by decide +kernel, by decide +kernel⟩, List.mem_of_getElem? (i := 94) (by decide +kernel), List.mem_of_getElem? (i := 267) (by decide +kernel), List.mem_of_getElem? (i := 268) (by decide +kernel)⟩
theorem lw_p5 : lw_okq (⟨"FaceRounds$PointingText", "skip", "(C)Z"⟩, 7) := ⟨⟨by decide +kernel, by decide +kernel⟩, List.mem_of_getElem? (i := 94) (by decide +kernel), List.mem_of_getElem? (i := 271) (by decide +kernel), List.mem_of_getElem? (i := 272) (by decide +kernel)⟩
theorem lw_p6 : lw_okq (⟨"FaceRounds$PointingText", "readAngle", "()I"⟩, 7) := ⟨⟨by decide +kernel, by decide +kernel⟩, List.mem_of_getElem? (i := 94) (by decide +kernel), List.mem_of_getElem? (i := 275) (by decide +kernel), List.mem_of_getElem? (i := 276) (by decide +kernel)⟩
theorem lw_p7 : lw_okq (⟨"FaceRounds$PointingText", "readNumber", "(I)I"⟩, 7) := ⟨⟨by decide +kernel, by decide +kernel⟩, List.mem_of_getElem? (i := 94) (by decide +kernel), List.mem_of_getElem? (i := 279) (by decide +kernel), List.mem_of_getElem? (i := 280) (by decide +kernel)⟩
theorem lw_p8 : lw_okq (⟨"FaceRounds", "canTakeText", "(II)Z"⟩, 6) := ⟨⟨by decide +kernel, by decide +kernel⟩, List.mem_of_getElem? (i := 12) (by decide +kernel), List.mem_of_getElem? (i := 284) (by decide +kernel), List.mem_of_getElem? (i := 285) (by decide +kernel)⟩
theorem lw_p9 : lw_okq (⟨"FaceRounds$State", "struckIn", "(I)I"⟩, 11) := ⟨⟨by decide +kernel, by decide +kernel⟩, List.mem_of_getElem? (i := 20) (by decide +kernel), List.mem_of_getElem? (i := 313) (by decide +kernel), List.mem_of_getElem? (i := 314) (by decide +kernel)⟩
theorem lw_p10 : lw_okq (⟨"FaceRounds$Reckoning", "reckonRound", "(LFaceRounds$State;II)V"⟩, 6) := ⟨⟨by decide +kernel, by decide +kernel⟩, List.mem_of_getElem? (i := 129) (by decide +kernel), List.mem_of_getElem? (i := 333) (by decide +kernel), List.mem_of_getElem? (i := 334) (by decide +kernel)⟩
theorem lw_p11 : lw_okq (⟨"FaceRounds$State", "ownReason", "(III)I"⟩, 11) := ⟨⟨by decide +kernel, by decide +kernel⟩, List.mem_of_getElem? (i := 20) (by decide +kernel), List.mem_of_getElem? (i := 342) (by decide +kernel), List.mem_of_getElem? (i := 343) (by decide +kernel)⟩
theorem lw_p12 : lw_okq (⟨"FaceRounds$Reckoning", "reckonDirection", "(I)V"⟩, 6) := ⟨⟨by decide +kernel, by decide +kernel⟩, List.mem_of_getElem? (i := 129) (by decide +kernel), List.mem_of_getElem? (i := 362) (by decide +kernel), List.mem_of_getElem? (i := 363) (by decide +kernel)⟩
theorem lw_p13 : lw_okq (⟨"FaceRounds$Reckoning", "reckonLeft", "(I)V"⟩, 6) := ⟨⟨by decide +kernel, by decide +kernel⟩, List.mem_of_getElem? (i := 129) (by decide +kernel), List.mem_of_getElem? (i := 370) (by decide +kernel), List.mem_of_getElem? (i := 371) (by decide +kernel)⟩
theorem lw_p14 : lw_okq (⟨"FaceRounds$Reckoning", "leftWithoutSign", "(II)I"⟩, 6) := ⟨⟨by decide +kernel, by decide +kernel⟩, List.mem_of_getElem? (i := 129) (by decide +kernel), List.mem_of_getElem? (i := 378) (by decide +kernel), List.mem_of_getElem? (i := 379) (by decide +kernel)⟩
theorem lw_p15 : lw_okq (⟨"FaceRounds", "toldDrift", "(I)I"⟩, 6) := ⟨⟨by decide +kernel, by decide +kernel⟩, List.mem_of_getElem? (i := 12) (by decide +kernel), List.mem_of_getElem? (i := 435) (by decide +kernel), List.mem_of_getElem? (i := 436) (by decide +kernel)⟩
def lw_privs_1 : List (MethodName × Nat) := [(⟨"FaceRounds$History", "dropOldest", "()V"⟩, 2), (⟨"FaceRounds$PointingText", "readPointing", "()Z"⟩, 7), (⟨"FaceRounds$PointingText", "readTarget", "()I"⟩, 7), (⟨"FaceRounds$PointingText", "digit", "()I"⟩, 7), (⟨"FaceRounds$PointingText", "readFace", "()I"⟩, 7), (⟨"FaceRounds$PointingText", "skip", "(C)Z"⟩, 7), (⟨"FaceRounds$PointingText", "readAngle", "()I"⟩, 7), (⟨"FaceRounds$PointingText", "readNumber", "(I)I"⟩, 7), (⟨"FaceRounds", "canTakeText", "(II)Z"⟩, 6), (⟨"FaceRounds$State", "struckIn", "(I)I"⟩, 11), (⟨"FaceRounds$Reckoning", "reckonRound", "(LFaceRounds$State;II)V"⟩, 6), (⟨"FaceRounds$State", "ownReason", "(III)I"⟩, 11), (⟨"FaceRounds$Reckoning", "reckonDirection", "(I)V"⟩, 6), (⟨"FaceRounds$Reckoning", "reckonLeft", "(I)V"⟩, 6), (⟨"FaceRounds$Reckoning", "leftWithoutSign", "(II)I"⟩, 6), (⟨"FaceRounds", "toldDrift", "(I)I"⟩, 6)]
theorem lw_r1 : ∀ q ∈ lw_privs_1, lw_okq q := List.forall_mem_cons.mpr ⟨lw_p0, List.forall_mem_cons.mpr ⟨lw_p1, List.forall_mem_cons.mpr ⟨lw_p2, List.forall_mem_cons.mpr ⟨lw_p3, List.forall_mem_cons.mpr ⟨lw_p4, List.forall_mem_cons.mpr ⟨lw_p5, List.forall_mem_cons.mpr ⟨lw_p6, List.forall_mem_cons.mpr ⟨lw_p7, List.forall_mem_cons.mpr ⟨lw_p8, List.forall_mem_cons.mpr ⟨lw_p9, List.forall_mem_cons.mpr ⟨lw_p10, List.forall_mem_cons.mpr ⟨lw_p11, List.forall_mem_cons.mpr ⟨lw_p12, List.forall_mem_cons.mpr ⟨lw_p13, List.forall_mem_cons.mpr ⟨lw_p14, List.forall_mem_cons.mpr ⟨lw_p15, fun _ h => absurd h List.not_mem_nil⟩⟩⟩⟩⟩⟩⟩⟩⟩⟩⟩⟩⟩⟩⟩⟩
theorem lw_p16 : lw_okq (⟨"FaceRounds", "correction", "(II)I"⟩, 6) := ⟨⟨by decide +kernel, by decide +kernel⟩, List.mem_of_getElem? (i := 12) (by decide +kernel), List.mem_of_getElem? (i := 472) (by decide +kernel), List.mem_of_getElem? (i := 473) (by decide +kernel)⟩
theorem lw_p17 : lw_okq (⟨"FaceRounds", "centredDirection", "(II)I"⟩, 6) := ⟨⟨by decide +kernel, by decide +kernel⟩, List.mem_of_getElem? (i := 12) (by decide +kernel), List.mem_of_getElem? (i := 482) (by decide +kernel), List.mem_of_getElem? (i := 483) (by decide +kernel)⟩
theorem lw_p18 : lw_okq (⟨"FaceRounds$Reckoning", "neighbour", "(I)I"⟩, 6) := ⟨⟨by decide +kernel, by decide +kernel⟩, List.mem_of_getElem? (i := 129) (by decide +kernel), List.mem_of_getElem? (i := 509) (by decide +kernel), List.mem_of_getElem? (i := 510) (by decide +kernel)⟩
theorem lw_p19 : lw_okq (⟨"FaceRounds$Reckoning", "isBehind", "(II)Z"⟩, 6) := ⟨⟨by decide +kernel, by decide +kernel⟩, List.mem_of_getElem? (i := 129) (by decide +kernel), List.mem_of_getElem? (i := 514) (by decide +kernel), List.mem_of_getElem? (i := 515) (by decide +kernel)⟩
theorem lw_p20 : lw_okq (⟨"FaceRounds", "allBad", "()I"⟩, 6) := ⟨⟨by decide +kernel, by decide +kernel⟩, List.mem_of_getElem? (i := 12) (by decide +kernel), List.mem_of_getElem? (i := 535) (by decide +kernel), List.mem_of_getElem? (i := 536) (by decide +kernel)⟩
theorem lw_p21 : lw_okq (⟨"FaceRoundsModel", "know", "()V"⟩, 11) := ⟨⟨by decide +kernel, by decide +kernel⟩, List.mem_of_getElem? (i := 548) (by decide +kernel), List.mem_of_getElem? (i := 593) (by decide +kernel), List.mem_of_getElem? (i := 594) (by decide +kernel)⟩
theorem lw_p22 : lw_okq (⟨"FaceRoundsModel", "isSetUp", "(I)Z"⟩, 11) := ⟨⟨by decide +kernel, by decide +kernel⟩, List.mem_of_getElem? (i := 548) (by decide +kernel), List.mem_of_getElem? (i := 604) (by decide +kernel), List.mem_of_getElem? (i := 605) (by decide +kernel)⟩
theorem lw_p23 : lw_okq (⟨"FaceRoundsModel", "isRound", "(II)Z"⟩, 11) := ⟨⟨by decide +kernel, by decide +kernel⟩, List.mem_of_getElem? (i := 548) (by decide +kernel), List.mem_of_getElem? (i := 619) (by decide +kernel), List.mem_of_getElem? (i := 620) (by decide +kernel)⟩
theorem lw_p24 : lw_okq (⟨"FaceRoundsModel", "canPoint", "(II)Z"⟩, 11) := ⟨⟨by decide +kernel, by decide +kernel⟩, List.mem_of_getElem? (i := 548) (by decide +kernel), List.mem_of_getElem? (i := 628) (by decide +kernel), List.mem_of_getElem? (i := 629) (by decide +kernel)⟩
theorem lw_p25 : lw_okq (⟨"FaceRoundsModel", "placeOf", "(II)I"⟩, 11) := ⟨⟨by decide +kernel, by decide +kernel⟩, List.mem_of_getElem? (i := 548) (by decide +kernel), List.mem_of_getElem? (i := 632) (by decide +kernel), List.mem_of_getElem? (i := 633) (by decide +kernel)⟩
theorem lw_p26 : lw_okq (⟨"FaceRoundsModel", "points", "(III)I"⟩, 11) := ⟨⟨by decide +kernel, by decide +kernel⟩, List.mem_of_getElem? (i := 548) (by decide +kernel), List.mem_of_getElem? (i := 641) (by decide +kernel), List.mem_of_getElem? (i := 642) (by decide +kernel)⟩
theorem lw_p27 : lw_okq (⟨"FaceRoundsModel", "drift", "(I)I"⟩, 11) := ⟨⟨by decide +kernel, by decide +kernel⟩, List.mem_of_getElem? (i := 548) (by decide +kernel), List.mem_of_getElem? (i := 649) (by decide +kernel), List.mem_of_getElem? (i := 650) (by decide +kernel)⟩
theorem lw_p28 : lw_okq (⟨"FaceRoundsModel", "struckOf", "(II)I"⟩, 11) := ⟨⟨by decide +kernel, by decide +kernel⟩, List.mem_of_getElem? (i := 548) (by decide +kernel), List.mem_of_getElem? (i := 665) (by decide +kernel), List.mem_of_getElem? (i := 666) (by decide +kernel)⟩
theorem lw_p29 : lw_okq (⟨"FaceRoundsModel", "struckIn", "(I)I"⟩, 11) := ⟨⟨by decide +kernel, by decide +kernel⟩, List.mem_of_getElem? (i := 548) (by decide +kernel), List.mem_of_getElem? (i := 669) (by decide +kernel), List.mem_of_getElem? (i := 670) (by decide +kernel)⟩
theorem lw_p30 : lw_okq (⟨"FaceRoundsModel", "isFirstOfClosed", "(II)Z"⟩, 11) := ⟨⟨by decide +kernel, by decide +kernel⟩, List.mem_of_getElem? (i := 548) (by decide +kernel), List.mem_of_getElem? (i := 677) (by decide +kernel), List.mem_of_getElem? (i := 678) (by decide +kernel)⟩
theorem lw_p31 : lw_okq (⟨"FaceRoundsModel", "wipes", "(II)I"⟩, 11) := ⟨⟨by decide +kernel, by decide +kernel⟩, List.mem_of_getElem? (i := 548) (by decide +kernel), List.mem_of_getElem? (i := 681) (by decide +kernel), List.mem_of_getElem? (i := 682) (by decide +kernel)⟩
def lw_privs_2 : List (MethodName × Nat) := [(⟨"FaceRounds", "correction", "(II)I"⟩, 6), (⟨"FaceRounds", "centredDirection", "(II)I"⟩, 6), (⟨"FaceRounds$Reckoning", "neighbour", "(I)I"⟩, 6), (⟨"FaceRounds$Reckoning", "isBehind", "(II)Z"⟩, 6), (⟨"FaceRounds", "allBad", "()I"⟩, 6), (⟨"FaceRoundsModel", "know", "()V"⟩, 11), (⟨"FaceRoundsModel", "isSetUp", "(I)Z"⟩, 11), (⟨"FaceRoundsModel", "isRound", "(II)Z"⟩, 11), (⟨"FaceRoundsModel", "canPoint", "(II)Z"⟩, 11), (⟨"FaceRoundsModel", "placeOf", "(II)I"⟩, 11), (⟨"FaceRoundsModel", "points", "(III)I"⟩, 11), (⟨"FaceRoundsModel", "drift", "(I)I"⟩, 11), (⟨"FaceRoundsModel", "struckOf", "(II)I"⟩, 11), (⟨"FaceRoundsModel", "struckIn", "(I)I"⟩, 11), (⟨"FaceRoundsModel", "isFirstOfClosed", "(II)Z"⟩, 11), (⟨"FaceRoundsModel", "wipes", "(II)I"⟩, 11)]
theorem lw_r2 : ∀ q ∈ lw_privs_2, lw_okq q := List.forall_mem_cons.mpr ⟨lw_p16, List.forall_mem_cons.mpr ⟨lw_p17, List.forall_mem_cons.mpr ⟨lw_p18, List.forall_mem_cons.mpr ⟨lw_p19, List.forall_mem_cons.mpr ⟨lw_p20, List.forall_mem_cons.mpr ⟨lw_p21, List.forall_mem_cons.mpr ⟨lw_p22, List.forall_mem_cons.mpr ⟨lw_p23, List.forall_mem_cons.mpr ⟨lw_p24, List.forall_mem_cons.mpr ⟨lw_p25, List.forall_mem_cons.mpr ⟨lw_p26, List.forall_mem_cons.mpr ⟨lw_p27, List.forall_mem_cons.mpr ⟨lw_p28, List.forall_mem_cons.mpr ⟨lw_p29, List.forall_mem_cons.mpr ⟨lw_p30, List.forall_mem_cons.mpr ⟨lw_p31, fun _ h => absurd h List.not_mem_nil⟩⟩⟩⟩⟩⟩⟩⟩⟩⟩⟩⟩⟩⟩⟩⟩
theorem lw_p32 : lw_okq (⟨"FaceRoundsModel", "worst", "(I)I"⟩, 11) := ⟨⟨by decide +kernel, by decide +kernel⟩, List.mem_of_getElem? (i := 548) (by decide +kernel), List.mem_of_getElem? (i := 689) (by decide +kernel), List.mem_of_getElem? (i := 690) (by decide +kernel)⟩
theorem lw_p33 : lw_okq (⟨"FaceRoundsModel", "isBad", "(III)Z"⟩, 11) := ⟨⟨by decide +kernel, by decide +kernel⟩, List.mem_of_getElem? (i := 548) (by decide +kernel), List.mem_of_getElem? (i := 693) (by decide +kernel), List.mem_of_getElem? (i := 694) (by decide +kernel)⟩
theorem lw_p34 : lw_okq (⟨"FaceRoundsModel", "why", "(III)I"⟩, 11) := ⟨⟨by decide +kernel, by decide +kernel⟩, List.mem_of_getElem? (i := 548) (by decide +kernel), List.mem_of_getElem? (i := 697) (by decide +kernel), List.mem_of_getElem? (i := 698) (by decide +kernel)⟩
theorem lw_p35 : lw_okq (⟨"FaceRoundsModel", "lacks", "(III)I"⟩, 11) := ⟨⟨by decide +kernel, by decide +kernel⟩, List.mem_of_getElem? (i := 548) (by decide +kernel), List.mem_of_getElem? (i := 701) (by decide +kernel), List.mem_of_getElem? (i := 702) (by decide +kernel)⟩
theorem lw_p36 : lw_okq (⟨"FaceRoundsModel", "left", "(III)I"⟩, 11) := ⟨⟨by decide +kernel, by decide +kernel⟩, List.mem_of_getElem? (i := 548) (by decide +kernel), List.mem_of_getElem? (i := 705) (by decide +kernel), List.mem_of_getElem? (i := 706) (by decide +kernel)⟩
theorem lw_p37 : lw_okq (⟨"FaceRoundsModel", "reducedIn", "(III)I"⟩, 11) := ⟨⟨by decide +kernel, by decide +kernel⟩, List.mem_of_getElem? (i := 548) (by decide +kernel), List.mem_of_getElem? (i := 709) (by decide +kernel), List.mem_of_getElem? (i := 710) (by decide +kernel)⟩
theorem lw_p38 : lw_okq (⟨"FaceRoundsModel", "mean", "(III)I"⟩, 11) := ⟨⟨by decide +kernel, by decide +kernel⟩, List.mem_of_getElem? (i := 548) (by decide +kernel), List.mem_of_getElem? (i := 713) (by decide +kernel), List.mem_of_getElem? (i := 714) (by decide +kernel)⟩
theorem lw_p39 : lw_okq (⟨"FaceRoundsModel", "corrected", "(II)I"⟩, 11) := ⟨⟨by decide +kernel, by decide +kernel⟩, List.mem_of_getElem? (i := 548) (by decide +kernel), List.mem_of_getElem? (i := 717) (by decide +kernel), List.mem_of_getElem? (i := 718) (by decide +kernel)⟩
theorem lw_p40 : lw_okq (⟨"FaceRoundsModel", "apart", "(III)I"⟩, 11) := ⟨⟨by decide +kernel, by decide +kernel⟩, List.mem_of_getElem? (i := 548) (by decide +kernel), List.mem_of_getElem? (i := 724) (by decide +kernel), List.mem_of_getElem? (i := 725) (by decide +kernel)⟩
theorem lw_p41 : lw_okq (⟨"FaceRoundsModel", "directed", "(II)I"⟩, 11) := ⟨⟨by decide +kernel, by decide +kernel⟩, List.mem_of_getElem? (i := 548) (by decide +kernel), List.mem_of_getElem? (i := 728) (by decide +kernel), List.mem_of_getElem? (i := 729) (by decide +kernel)⟩
theorem lw_p42 : lw_okq (⟨"FaceRoundsModel", "puts", "(II)I"⟩, 11) := ⟨⟨by decide +kernel, by decide +kernel⟩, List.mem_of_getElem? (i := 548) (by decide +kernel), List.mem_of_getElem? (i := 739) (by decide +kernel), List.mem_of_getElem? (i := 740) (by decide +kernel)⟩
theorem lw_p43 : lw_okq (⟨"FaceRoundsModel", "go", "(IIZ)I"⟩, 11) := ⟨⟨by decide +kernel, by decide +kernel⟩, List.mem_of_getElem? (i := 548) (by decide +kernel), List.mem_of_getElem? (i := 763) (by decide +kernel), List.mem_of_getElem? (i := 764) (by decide +kernel)⟩
theorem lw_p44 : lw_okq (⟨"FaceRoundsModel", "sign", "(II)I"⟩, 11) := ⟨⟨by decide +kernel, by decide +kernel⟩, List.mem_of_getElem? (i := 548) (by decide +kernel), List.mem_of_getElem? (i := 767) (by decide +kernel), List.mem_of_getElem? (i := 768) (by decide +kernel)⟩
theorem lw_p45 : lw_okq (⟨"FaceRoundsModel", "number", "(I)I"⟩, 11) := ⟨⟨by decide +kernel, by decide +kernel⟩, List.mem_of_getElem? (i := 548) (by decide +kernel), List.mem_of_getElem? (i := 771) (by decide +kernel), List.mem_of_getElem? (i := 772) (by decide +kernel)⟩
theorem lw_p46 : lw_okq (⟨"FaceRoundsModel", "putAside", "()V"⟩, 11) := ⟨⟨by decide +kernel, by decide +kernel⟩, List.mem_of_getElem? (i := 548) (by decide +kernel), List.mem_of_getElem? (i := 776) (by decide +kernel), List.mem_of_getElem? (i := 777) (by decide +kernel)⟩
theorem lw_p47 : lw_okq (⟨"FaceRoundsModel", "putBack", "()V"⟩, 11) := ⟨⟨by decide +kernel, by decide +kernel⟩, List.mem_of_getElem? (i := 548) (by decide +kernel), List.mem_of_getElem? (i := 780) (by decide +kernel), List.mem_of_getElem? (i := 781) (by decide +kernel)⟩
def lw_privs_3 : List (MethodName × Nat) := [(⟨"FaceRoundsModel", "worst", "(I)I"⟩, 11), (⟨"FaceRoundsModel", "isBad", "(III)Z"⟩, 11), (⟨"FaceRoundsModel", "why", "(III)I"⟩, 11), (⟨"FaceRoundsModel", "lacks", "(III)I"⟩, 11), (⟨"FaceRoundsModel", "left", "(III)I"⟩, 11), (⟨"FaceRoundsModel", "reducedIn", "(III)I"⟩, 11), (⟨"FaceRoundsModel", "mean", "(III)I"⟩, 11), (⟨"FaceRoundsModel", "corrected", "(II)I"⟩, 11), (⟨"FaceRoundsModel", "apart", "(III)I"⟩, 11), (⟨"FaceRoundsModel", "directed", "(II)I"⟩, 11), (⟨"FaceRoundsModel", "puts", "(II)I"⟩, 11), (⟨"FaceRoundsModel", "go", "(IIZ)I"⟩, 11), (⟨"FaceRoundsModel", "sign", "(II)I"⟩, 11), (⟨"FaceRoundsModel", "number", "(I)I"⟩, 11), (⟨"FaceRoundsModel", "putAside", "()V"⟩, 11), (⟨"FaceRoundsModel", "putBack", "()V"⟩, 11)]
theorem lw_r3 : ∀ q ∈ lw_privs_3, lw_okq q := List.forall_mem_cons.mpr ⟨lw_p32, List.forall_mem_cons.mpr ⟨lw_p33, List.forall_mem_cons.mpr ⟨lw_p34, List.forall_mem_cons.mpr ⟨lw_p35, List.forall_mem_cons.mpr ⟨lw_p36, List.forall_mem_cons.mpr ⟨lw_p37, List.forall_mem_cons.mpr ⟨lw_p38, List.forall_mem_cons.mpr ⟨lw_p39, List.forall_mem_cons.mpr ⟨lw_p40, List.forall_mem_cons.mpr ⟨lw_p41, List.forall_mem_cons.mpr ⟨lw_p42, List.forall_mem_cons.mpr ⟨lw_p43, List.forall_mem_cons.mpr ⟨lw_p44, List.forall_mem_cons.mpr ⟨lw_p45, List.forall_mem_cons.mpr ⟨lw_p46, List.forall_mem_cons.mpr ⟨lw_p47, fun _ h => absurd h List.not_mem_nil⟩⟩⟩⟩⟩⟩⟩⟩⟩⟩⟩⟩⟩⟩⟩⟩
theorem lw_p48 : lw_okq (⟨"FaceRoundsModel", "used", "(II)I"⟩, 11) := ⟨⟨by decide +kernel, by decide +kernel⟩, List.mem_of_getElem? (i := 548) (by decide +kernel), List.mem_of_getElem? (i := 804) (by decide +kernel), List.mem_of_getElem? (i := 805) (by decide +kernel)⟩
theorem lw_p49 : lw_okq (⟨"FaceRoundsModel", "meanSight", "(II)I"⟩, 11) := ⟨⟨by decide +kernel, by decide +kernel⟩, List.mem_of_getElem? (i := 548) (by decide +kernel), List.mem_of_getElem? (i := 808) (by decide +kernel), List.mem_of_getElem? (i := 809) (by decide +kernel)⟩
theorem lw_p50 : lw_okq (⟨"FaceRoundsModel", "sight", "(III)I"⟩, 11) := ⟨⟨by decide +kernel, by decide +kernel⟩, List.mem_of_getElem? (i := 548) (by decide +kernel), List.mem_of_getElem? (i := 812) (by decide +kernel), List.mem_of_getElem? (i := 813) (by decide +kernel)⟩
theorem lw_p51 : lw_okq (⟨"FaceRoundsModel", "bad", "(II)I"⟩, 11) := ⟨⟨by decide +kernel, by decide +kernel⟩, List.mem_of_getElem? (i := 548) (by decide +kernel), List.mem_of_getElem? (i := 816) (by decide +kernel), List.mem_of_getElem? (i := 817) (by decide +kernel)⟩
theorem lw_p52 : lw_okq (⟨"FaceRoundsModel", "roundsOf", "(II)I"⟩, 11) := ⟨⟨by decide +kernel, by decide +kernel⟩, List.mem_of_getElem? (i := 548) (by decide +kernel), List.mem_of_getElem? (i := 828) (by decide +kernel), List.mem_of_getElem? (i := 829) (by decide +kernel)⟩
theorem lw_p53 : lw_okq (⟨"FaceRoundsModel", "correction", "(III)I"⟩, 11) := ⟨⟨by decide +kernel, by decide +kernel⟩, List.mem_of_getElem? (i := 548) (by decide +kernel), List.mem_of_getElem? (i := 832) (by decide +kernel), List.mem_of_getElem? (i := 833) (by decide +kernel)⟩
theorem lw_p54 : lw_okq (⟨"FaceRoundsModel", "centred", "(III)I"⟩, 11) := ⟨⟨by decide +kernel, by decide +kernel⟩, List.mem_of_getElem? (i := 548) (by decide +kernel), List.mem_of_getElem? (i := 845) (by decide +kernel), List.mem_of_getElem? (i := 846) (by decide +kernel)⟩
theorem lw_p55 : lw_okq (⟨"FaceRoundsModel", "mostLeft", "(II)I"⟩, 11) := ⟨⟨by decide +kernel, by decide +kernel⟩, List.mem_of_getElem? (i := 548) (by decide +kernel), List.mem_of_getElem? (i := 849) (by decide +kernel), List.mem_of_getElem? (i := 850) (by decide +kernel)⟩
theorem lw_p56 : lw_okq (⟨"FaceRoundsModel", "sum", "(I)I"⟩, 11) := ⟨⟨by decide +kernel, by decide +kernel⟩, List.mem_of_getElem? (i := 548) (by decide +kernel), List.mem_of_getElem? (i := 865) (by decide +kernel), List.mem_of_getElem? (i := 866) (by decide +kernel)⟩
def lw_privs_4 : List (MethodName × Nat) := [(⟨"FaceRoundsModel", "used", "(II)I"⟩, 11), (⟨"FaceRoundsModel", "meanSight", "(II)I"⟩, 11), (⟨"FaceRoundsModel", "sight", "(III)I"⟩, 11), (⟨"FaceRoundsModel", "bad", "(II)I"⟩, 11), (⟨"FaceRoundsModel", "roundsOf", "(II)I"⟩, 11), (⟨"FaceRoundsModel", "correction", "(III)I"⟩, 11), (⟨"FaceRoundsModel", "centred", "(III)I"⟩, 11), (⟨"FaceRoundsModel", "mostLeft", "(II)I"⟩, 11), (⟨"FaceRoundsModel", "sum", "(I)I"⟩, 11)]
theorem lw_r4 : ∀ q ∈ lw_privs_4, lw_okq q := List.forall_mem_cons.mpr ⟨lw_p48, List.forall_mem_cons.mpr ⟨lw_p49, List.forall_mem_cons.mpr ⟨lw_p50, List.forall_mem_cons.mpr ⟨lw_p51, List.forall_mem_cons.mpr ⟨lw_p52, List.forall_mem_cons.mpr ⟨lw_p53, List.forall_mem_cons.mpr ⟨lw_p54, List.forall_mem_cons.mpr ⟨lw_p55, List.forall_mem_cons.mpr ⟨lw_p56, fun _ h => absurd h List.not_mem_nil⟩⟩⟩⟩⟩⟩⟩⟩⟩
def lw_privs : List (MethodName × Nat) := lw_privs_1 ++ (lw_privs_2 ++ (lw_privs_3 ++ (lw_privs_4)))
def lw_tbl : List Cond := k2_sels lw_privs ++ tables_1
theorem lw_privs_ok : ∀ q ∈ lw_privs, lw_okq q := by
  show ∀ q ∈ lw_privs_1 ++ (lw_privs_2 ++ (lw_privs_3 ++ (lw_privs_4))), lw_okq q
  exact List.forall_mem_append.mpr ⟨lw_r1, List.forall_mem_append.mpr ⟨lw_r2, List.forall_mem_append.mpr ⟨lw_r3, lw_r4⟩⟩⟩
-- ===== end of PART A; then your names; then what follows =====
end
section
def RX0 : String := "FaceRounds$History"
def TX0 : u_T := fun k => match k with
  | 0 => ("FaceRounds$History", "states", "[LFaceRounds$State;", true)
  | _ => ("FaceRounds$History", "depth", "I", false)
def tyX0 : Nat → FieldType := fun k => match k with
  | 0 => .array (.object "FaceRounds$State")
  | _ => .int
abbrev wsX00 : List Cond := u_ws RX0 TX0 2
theorem nmX0 : ∀ a, a < 2 → ∀ b, b < 2 → a ≠ b → (TX0 a).2.1 ≠ (TX0 b).2.1 := by decide +kernel
theorem tyX0_ok : ∀ k, k < 2 → parseFieldDescriptor (TX0 k).2.2.1 = some (tyX0 k) := by decide +kernel
abbrev cX0_init : ByteArray := prog_2_method_1_code
def yX0_init : MethodName := ⟨RX0, "<init>", "()V"⟩
abbrev cX0_record : ByteArray := prog_2_method_2_code
def yX0_record : MethodName := ⟨RX0, "record", "(LFaceRounds$State;)V"⟩
abbrev cX0_takeBack : ByteArray := prog_2_method_3_code
def yX0_takeBack : MethodName := ⟨RX0, "takeBack", "(LFaceRounds$State;)V"⟩
abbrev cX0_dropOldest : ByteArray := prog_2_method_4_code
def yX0_dropOldest : MethodName := ⟨RX0, "dropOldest", "()V"⟩
def RX1 : String := "FaceRounds$PointingText"
def TX1 : u_T := fun k => match k with
  | 0 => ("FaceRounds$PointingText", "characters", "[C", true)
  | 1 => ("FaceRounds$PointingText", "length", "I", false)
  | 2 => ("FaceRounds$PointingText", "targets", "[I", true)
  | 3 => ("FaceRounds$PointingText", "faces", "[I", true)
  | 4 => ("FaceRounds$PointingText", "readings", "[I", true)
  | 5 => ("FaceRounds$PointingText", "found", "I", false)
  | _ => ("FaceRounds$PointingText", "at", "I", false)
def tyX1 : Nat → FieldType := fun k => match k with
  | 0 => .array .char
  | 1 => .int
  | 2 => .array .int
  | 3 => .array .int
  | 4 => .array .int
  | 5 => .int
  | _ => .int
abbrev wsX10 : List Cond := u_ws RX1 TX1 7
theorem nmX1 : ∀ a, a < 7 → ∀ b, b < 7 → a ≠ b → (TX1 a).2.1 ≠ (TX1 b).2.1 := by decide +kernel
theorem tyX1_ok : ∀ k, k < 7 → parseFieldDescriptor (TX1 k).2.2.1 = some (tyX1 k) := by decide +kernel
abbrev cX1_init : ByteArray := prog_3_method_1_code
def yX1_init : MethodName := ⟨RX1, "<init>", "()V"⟩
abbrev cX1_readPointings : ByteArray := prog_3_method_2_code
def yX1_readPointings : MethodName := ⟨RX1, "readPointings", "()I"⟩
abbrev cX1_readPointing : ByteArray := prog_3_method_3_code
def yX1_readPointing : MethodName := ⟨RX1, "readPointing", "()Z"⟩
abbrev cX1_readTarget : ByteArray := prog_3_method_4_code
def yX1_readTarget : MethodName := ⟨RX1, "readTarget", "()I"⟩
abbrev cX1_readFace : ByteArray := prog_3_method_5_code
def yX1_readFace : MethodName := ⟨RX1, "readFace", "()I"⟩
abbrev cX1_readAngle : ByteArray := prog_3_method_6_code
def yX1_readAngle : MethodName := ⟨RX1, "readAngle", "()I"⟩
abbrev cX1_readNumber : ByteArray := prog_3_method_7_code
def yX1_readNumber : MethodName := ⟨RX1, "readNumber", "(I)I"⟩
abbrev cX1_digit : ByteArray := prog_3_method_8_code
def yX1_digit : MethodName := ⟨RX1, "digit", "()I"⟩
abbrev cX1_skip : ByteArray := prog_3_method_9_code
def yX1_skip : MethodName := ⟨RX1, "skip", "(C)Z"⟩
def RX2 : String := "FaceRounds$Reckoning"
def TX2 : u_T := fun k => match k with
  | 0 => ("FaceRounds$Reckoning", "rounds", "I", false)
  | 1 => ("FaceRounds$Reckoning", "usedTargets", "[I", true)
  | 2 => ("FaceRounds$Reckoning", "reducedDirections", "[I", true)
  | 3 => ("FaceRounds$Reckoning", "errors", "[I", true)
  | 4 => ("FaceRounds$Reckoning", "left", "[I", true)
  | _ => ("FaceRounds$Reckoning", "directions", "[I", true)
def tyX2 : Nat → FieldType := fun k => match k with
  | 0 => .int
  | 1 => .array .int
  | 2 => .array .int
  | 3 => .array .int
  | 4 => .array .int
  | _ => .array .int
abbrev wsX20 : List Cond := u_ws RX2 TX2 6
theorem nmX2 : ∀ a, a < 6 → ∀ b, b < 6 → a ≠ b → (TX2 a).2.1 ≠ (TX2 b).2.1 := by decide +kernel
theorem tyX2_ok : ∀ k, k < 6 → parseFieldDescriptor (TX2 k).2.2.1 = some (tyX2 k) := by decide +kernel
abbrev cX2_init : ByteArray := prog_4_method_1_code
def yX2_init : MethodName := ⟨RX2, "<init>", "()V"⟩
abbrev cX2_reckon : ByteArray := prog_4_method_2_code
def yX2_reckon : MethodName := ⟨RX2, "reckon", "(LFaceRounds$State;I)V"⟩
abbrev cX2_reckonRound : ByteArray := prog_4_method_3_code
def yX2_reckonRound : MethodName := ⟨RX2, "reckonRound", "(LFaceRounds$State;II)V"⟩
abbrev cX2_reckonDirection : ByteArray := prog_4_method_4_code
def yX2_reckonDirection : MethodName := ⟨RX2, "reckonDirection", "(I)V"⟩
abbrev cX2_reckonLeft : ByteArray := prog_4_method_5_code
def yX2_reckonLeft : MethodName := ⟨RX2, "reckonLeft", "(I)V"⟩
abbrev cX2_isUsed : ByteArray := prog_4_method_6_code
def yX2_isUsed : MethodName := ⟨RX2, "isUsed", "(II)Z"⟩
abbrev cX2_hasDirection : ByteArray := prog_4_method_7_code
def yX2_hasDirection : MethodName := ⟨RX2, "hasDirection", "(I)Z"⟩
abbrev cX2_roundsOf : ByteArray := prog_4_method_8_code
def yX2_roundsOf : MethodName := ⟨RX2, "roundsOf", "(I)I"⟩
abbrev cX2_leftWithoutSign : ByteArray := prog_4_method_9_code
def yX2_leftWithoutSign : MethodName := ⟨RX2, "leftWithoutSign", "(II)I"⟩
abbrev cX2_mostLeft : ByteArray := prog_4_method_10_code
def yX2_mostLeft : MethodName := ⟨RX2, "mostLeft", "(I)I"⟩
abbrev cX2_badTargets : ByteArray := prog_4_method_11_code
def yX2_badTargets : MethodName := ⟨RX2, "badTargets", "(II)I"⟩
abbrev cX2_worst : ByteArray := prog_4_method_12_code
def yX2_worst : MethodName := ⟨RX2, "worst", "(I)I"⟩
abbrev cX2_meanError : ByteArray := prog_4_method_13_code
def yX2_meanError : MethodName := ⟨RX2, "meanError", "(I)I"⟩
abbrev cX2_angleBetween : ByteArray := prog_4_method_14_code
def yX2_angleBetween : MethodName := ⟨RX2, "angleBetween", "(II)I"⟩
abbrev cX2_sumOfAngles : ByteArray := prog_4_method_15_code
def yX2_sumOfAngles : MethodName := ⟨RX2, "sumOfAngles", "(I)I"⟩
abbrev cX2_neighbour : ByteArray := prog_4_method_16_code
def yX2_neighbour : MethodName := ⟨RX2, "neighbour", "(I)I"⟩
abbrev cX2_isBehind : ByteArray := prog_4_method_17_code
def yX2_isBehind : MethodName := ⟨RX2, "isBehind", "(II)Z"⟩
def RX3 : String := "FaceRounds$State"
def TX3 : u_T := fun k => match k with
  | 0 => ("FaceRounds$State", "setUps", "I", false)
  | 1 => ("FaceRounds$State", "limit", "I", false)
  | 2 => ("FaceRounds$State", "rounds", "[I", true)
  | 3 => ("FaceRounds$State", "offsets", "[I", true)
  | 4 => ("FaceRounds$State", "sectors", "[I", true)
  | 5 => ("FaceRounds$State", "distances", "[I", true)
  | 6 => ("FaceRounds$State", "pointings", "[I", true)
  | 7 => ("FaceRounds$State", "closings", "[I", true)
  | 8 => ("FaceRounds$State", "targets", "[I", true)
  | 9 => ("FaceRounds$State", "readings", "[I", true)
  | _ => ("FaceRounds$State", "struck", "[Z", true)
def tyX3 : Nat → FieldType := fun k => match k with
  | 0 => .int
  | 1 => .int
  | 2 => .array .int
  | 3 => .array .int
  | 4 => .array .int
  | 5 => .array .int
  | 6 => .array .int
  | 7 => .array .int
  | 8 => .array .int
  | 9 => .array .int
  | _ => .array .boolean
abbrev wsX30 : List Cond := u_ws RX3 TX3 11
theorem nmX3 : ∀ a, a < 11 → ∀ b, b < 11 → a ≠ b → (TX3 a).2.1 ≠ (TX3 b).2.1 := by decide +kernel
theorem tyX3_ok : ∀ k, k < 11 → parseFieldDescriptor (TX3 k).2.2.1 = some (tyX3 k) := by decide +kernel
abbrev cX3_init : ByteArray := prog_5_method_1_code
def yX3_init : MethodName := ⟨RX3, "<init>", "()V"⟩
abbrev cX3_copyFrom : ByteArray := prog_5_method_2_code
def yX3_copyFrom : MethodName := ⟨RX3, "copyFrom", "(LFaceRounds$State;)V"⟩
abbrev cX3_hasSetUp : ByteArray := prog_5_method_3_code
def yX3_hasSetUp : MethodName := ⟨RX3, "hasSetUp", "(I)Z"⟩
abbrev cX3_hasRound : ByteArray := prog_5_method_4_code
def yX3_hasRound : MethodName := ⟨RX3, "hasRound", "(II)Z"⟩
abbrev cX3_isClosed : ByteArray := prog_5_method_5_code
def yX3_isClosed : MethodName := ⟨RX3, "isClosed", "(I)Z"⟩
abbrev cX3_placeOf : ByteArray := prog_5_method_6_code
def yX3_placeOf : MethodName := ⟨RX3, "placeOf", "(II)I"⟩
abbrev cX3_canTake : ByteArray := prog_5_method_7_code
def yX3_canTake : MethodName := ⟨RX3, "canTake", "(II)Z"⟩
abbrev cX3_add : ByteArray := prog_5_method_8_code
def yX3_add : MethodName := ⟨RX3, "add", "(III)V"⟩
abbrev cX3_remove : ByteArray := prog_5_method_9_code
def yX3_remove : MethodName := ⟨RX3, "remove", "(II)V"⟩
abbrev cX3_strikeBoth : ByteArray := prog_5_method_10_code
def yX3_strikeBoth : MethodName := ⟨RX3, "strikeBoth", "(III)V"⟩
abbrev cX3_driftOf : ByteArray := prog_5_method_11_code
def yX3_driftOf : MethodName := ⟨RX3, "driftOf", "(I)I"⟩
abbrev cX3_corrected : ByteArray := prog_5_method_12_code
def yX3_corrected : MethodName := ⟨RX3, "corrected", "(II)I"⟩
abbrev cX3_whyNotUsed : ByteArray := prog_5_method_13_code
def yX3_whyNotUsed : MethodName := ⟨RX3, "whyNotUsed", "(III)I"⟩
abbrev cX3_ownReason : ByteArray := prog_5_method_14_code
def yX3_ownReason : MethodName := ⟨RX3, "ownReason", "(III)I"⟩
abbrev cX3_struckIn : ByteArray := prog_5_method_15_code
def yX3_struckIn : MethodName := ⟨RX3, "struckIn", "(I)I"⟩
abbrev cX3_struckInRound : ByteArray := prog_5_method_16_code
def yX3_struckInRound : MethodName := ⟨RX3, "struckInRound", "(II)I"⟩
abbrev cX3_allRounds : ByteArray := prog_5_method_17_code
def yX3_allRounds : MethodName := ⟨RX3, "allRounds", "()I"⟩
abbrev cX3_allPointings : ByteArray := prog_5_method_18_code
def yX3_allPointings : MethodName := ⟨RX3, "allPointings", "()I"⟩
abbrev cX3_allStruck : ByteArray := prog_5_method_19_code
def yX3_allStruck : MethodName := ⟨RX3, "allStruck", "()I"⟩
abbrev cX3_allClosings : ByteArray := prog_5_method_20_code
def yX3_allClosings : MethodName := ⟨RX3, "allClosings", "()I"⟩
def RX4 : String := "FaceRounds"
def TX4 : u_T := fun k => match k with
  | 0 => ("FaceRounds", "state", "LFaceRounds$State;", true)
  | 1 => ("FaceRounds", "snapshot", "LFaceRounds$State;", true)
  | 2 => ("FaceRounds", "snapshotTaken", "Z", false)
  | 3 => ("FaceRounds", "history", "LFaceRounds$History;", true)
  | 4 => ("FaceRounds", "text", "LFaceRounds$PointingText;", true)
  | _ => ("FaceRounds", "reckoning", "LFaceRounds$Reckoning;", true)
def tyX4 : Nat → FieldType := fun k => match k with
  | 0 => .object "FaceRounds$State"
  | 1 => .object "FaceRounds$State"
  | 2 => .boolean
  | 3 => .object "FaceRounds$History"
  | 4 => .object "FaceRounds$PointingText"
  | _ => .object "FaceRounds$Reckoning"
abbrev wsX40 : List Cond := u_ws RX4 TX4 6
theorem nmX4 : ∀ a, a < 6 → ∀ b, b < 6 → a ≠ b → (TX4 a).2.1 ≠ (TX4 b).2.1 := by decide +kernel
theorem tyX4_ok : ∀ k, k < 6 → parseFieldDescriptor (TX4 k).2.2.1 = some (tyX4 k) := by decide +kernel
abbrev cX4_init : ByteArray := prog_1_method_1_code
def yX4_init : MethodName := ⟨RX4, "<init>", "()V"⟩
abbrev cX4_setUp : ByteArray := prog_1_method_2_code
def yX4_setUp : MethodName := ⟨RX4, "setUp", "()I"⟩
abbrev cX4_begin : ByteArray := prog_1_method_3_code
def yX4_begin : MethodName := ⟨RX4, "begin", "(I)I"⟩
abbrev cX4_point : ByteArray := prog_1_method_4_code
def yX4_point : MethodName := ⟨RX4, "point", "(IIIII)I"⟩
abbrev cX4_pointAll : ByteArray := prog_1_method_5_code
def yX4_pointAll : MethodName := ⟨RX4, "pointAll", "(II)I"⟩
abbrev cX4_close : ByteArray := prog_1_method_6_code
def yX4_close : MethodName := ⟨RX4, "close", "(IIII)I"⟩
abbrev cX4_strike : ByteArray := prog_1_method_7_code
def yX4_strike : MethodName := ⟨RX4, "strike", "(IIIIZ)I"⟩
abbrev cX4_wipe : ByteArray := prog_1_method_8_code
def yX4_wipe : MethodName := ⟨RX4, "wipe", "(III)I"⟩
abbrev cX4_clean : ByteArray := prog_1_method_9_code
def yX4_clean : MethodName := ⟨RX4, "clean", "(I)I"⟩
abbrev cX4_setLimit : ByteArray := prog_1_method_10_code
def yX4_setLimit : MethodName := ⟨RX4, "setLimit", "(I)I"⟩
abbrev cX4_centre : ByteArray := prog_1_method_11_code
def yX4_centre : MethodName := ⟨RX4, "centre", "(III)I"⟩
abbrev cX4_setDistance : ByteArray := prog_1_method_12_code
def yX4_setDistance : MethodName := ⟨RX4, "setDistance", "(II)I"⟩
abbrev cX4_type : ByteArray := prog_1_method_13_code
def yX4_type : MethodName := ⟨RX4, "type", "(C)I"⟩
abbrev cX4_clearText : ByteArray := prog_1_method_14_code
def yX4_clearText : MethodName := ⟨RX4, "clearText", "()I"⟩
abbrev cX4_undo : ByteArray := prog_1_method_15_code
def yX4_undo : MethodName := ⟨RX4, "undo", "()I"⟩
abbrev cX4_keep : ByteArray := prog_1_method_16_code
def yX4_keep : MethodName := ⟨RX4, "keep", "()I"⟩
abbrev cX4_restore : ByteArray := prog_1_method_17_code
def yX4_restore : MethodName := ⟨RX4, "restore", "()I"⟩
abbrev cX4_pointing : ByteArray := prog_1_method_18_code
def yX4_pointing : MethodName := ⟨RX4, "pointing", "(IIIII)I"⟩
abbrev cX4_round : ByteArray := prog_1_method_19_code
def yX4_round : MethodName := ⟨RX4, "round", "(III)I"⟩
abbrev cX4_reduced : ByteArray := prog_1_method_20_code
def yX4_reduced : MethodName := ⟨RX4, "reduced", "(IIII)I"⟩
abbrev cX4_direction : ByteArray := prog_1_method_21_code
def yX4_direction : MethodName := ⟨RX4, "direction", "(III)I"⟩
abbrev cX4_angle : ByteArray := prog_1_method_22_code
def yX4_angle : MethodName := ⟨RX4, "angle", "(IIIZ)I"⟩
abbrev cX4_byAngles : ByteArray := prog_1_method_23_code
def yX4_byAngles : MethodName := ⟨RX4, "byAngles", "(II)I"⟩
abbrev cX4_count : ByteArray := prog_1_method_24_code
def yX4_count : MethodName := ⟨RX4, "count", "(I)I"⟩
abbrev cX4_centring : ByteArray := prog_1_method_25_code
def yX4_centring : MethodName := ⟨RX4, "centring", "(IZ)I"⟩
abbrev cX4_isTarget : ByteArray := prog_1_method_26_code
def yX4_isTarget : MethodName := ⟨RX4, "isTarget", "(I)Z"⟩
abbrev cX4_isFace : ByteArray := prog_1_method_27_code
def yX4_isFace : MethodName := ⟨RX4, "isFace", "(I)Z"⟩
abbrev cX4_isReading : ByteArray := prog_1_method_28_code
def yX4_isReading : MethodName := ⟨RX4, "isReading", "(I)Z"⟩
abbrev cX4_rowOf : ByteArray := prog_1_method_29_code
def yX4_rowOf : MethodName := ⟨RX4, "rowOf", "(III)I"⟩
abbrev cX4_nearZero : ByteArray := prog_1_method_30_code
def yX4_nearZero : MethodName := ⟨RX4, "nearZero", "(I)I"⟩
abbrev cX4_canTakeText : ByteArray := prog_1_method_31_code
def yX4_canTakeText : MethodName := ⟨RX4, "canTakeText", "(II)Z"⟩
abbrev cX4_toldDrift : ByteArray := prog_1_method_32_code
def yX4_toldDrift : MethodName := ⟨RX4, "toldDrift", "(I)I"⟩
abbrev cX4_allBad : ByteArray := prog_1_method_33_code
def yX4_allBad : MethodName := ⟨RX4, "allBad", "()I"⟩
abbrev cX4_correction : ByteArray := prog_1_method_34_code
def yX4_correction : MethodName := ⟨RX4, "correction", "(II)I"⟩
abbrev cX4_centredDirection : ByteArray := prog_1_method_35_code
def yX4_centredDirection : MethodName := ⟨RX4, "centredDirection", "(II)I"⟩
def RX5 : String := "FaceRoundsModel"
def TX5 : u_T := fun k => match k with
  | 0 => ("FaceRoundsModel", "s", "[I", true)
  | 1 => ("FaceRoundsModel", "aside", "[I", true)
  | 2 => ("FaceRoundsModel", "before", "[I", true)
  | 3 => ("FaceRoundsModel", "known", "I", false)
  | 4 => ("FaceRoundsModel", "kept", "[I", true)
  | 5 => ("FaceRoundsModel", "isKept", "Z", false)
  | 6 => ("FaceRoundsModel", "text", "[I", true)
  | 7 => ("FaceRoundsModel", "typed", "I", false)
  | 8 => ("FaceRoundsModel", "at", "I", false)
  | 9 => ("FaceRoundsModel", "isWrong", "Z", false)
  | _ => ("FaceRoundsModel", "isStopped", "Z", false)
def tyX5 : Nat → FieldType := fun k => match k with
  | 0 => .array .int
  | 1 => .array .int
  | 2 => .array .int
  | 3 => .int
  | 4 => .array .int
  | 5 => .boolean
  | 6 => .array .int
  | 7 => .int
  | 8 => .int
  | 9 => .boolean
  | _ => .boolean
abbrev wsX50 : List Cond := u_ws RX5 TX5 11
theorem nmX5 : ∀ a, a < 11 → ∀ b, b < 11 → a ≠ b → (TX5 a).2.1 ≠ (TX5 b).2.1 := by decide +kernel
theorem tyX5_ok : ∀ k, k < 11 → parseFieldDescriptor (TX5 k).2.2.1 = some (tyX5 k) := by decide +kernel
abbrev cX5_init : ByteArray := prog_7_method_1_code
def yX5_init : MethodName := ⟨RX5, "<init>", "()V"⟩
abbrev cX5_in : ByteArray := prog_7_method_3_code
def yX5_in : MethodName := ⟨RX5, "in", "(III)Z"⟩
abbrev cX5_of : ByteArray := prog_7_method_4_code
def yX5_of : MethodName := ⟨RX5, "of", "(II)I"⟩
abbrev cX5_faceAt : ByteArray := prog_7_method_5_code
def yX5_faceAt : MethodName := ⟨RX5, "faceAt", "(III)I"⟩
abbrev cX5_isSetUp : ByteArray := prog_7_method_6_code
def yX5_isSetUp : MethodName := ⟨RX5, "isSetUp", "(I)Z"⟩
abbrev cX5_isRound : ByteArray := prog_7_method_7_code
def yX5_isRound : MethodName := ⟨RX5, "isRound", "(II)Z"⟩
abbrev cX5_isTarget : ByteArray := prog_7_method_8_code
def yX5_isTarget : MethodName := ⟨RX5, "isTarget", "(I)Z"⟩
abbrev cX5_know : ByteArray := prog_7_method_9_code
def yX5_know : MethodName := ⟨RX5, "know", "()V"⟩
abbrev cX5_putAside : ByteArray := prog_7_method_10_code
def yX5_putAside : MethodName := ⟨RX5, "putAside", "()V"⟩
abbrev cX5_putBack : ByteArray := prog_7_method_11_code
def yX5_putBack : MethodName := ⟨RX5, "putBack", "()V"⟩
abbrev cX5_puts : ByteArray := prog_7_method_12_code
def yX5_puts : MethodName := ⟨RX5, "puts", "(II)I"⟩
abbrev cX5_divided : ByteArray := prog_7_method_13_code
def yX5_divided : MethodName := ⟨RX5, "divided", "(II)I"⟩
abbrev cX5_full : ByteArray := prog_7_method_14_code
def yX5_full : MethodName := ⟨RX5, "full", "(I)I"⟩
abbrev cX5_near : ByteArray := prog_7_method_15_code
def yX5_near : MethodName := ⟨RX5, "near", "(I)I"⟩
abbrev cX5_size : ByteArray := prog_7_method_16_code
def yX5_size : MethodName := ⟨RX5, "size", "(I)I"⟩
abbrev cX5_placed : ByteArray := prog_7_method_17_code
def yX5_placed : MethodName := ⟨RX5, "placed", "(III)I"⟩
abbrev cX5_placeOf : ByteArray := prog_7_method_18_code
def yX5_placeOf : MethodName := ⟨RX5, "placeOf", "(II)I"⟩
abbrev cX5_drift : ByteArray := prog_7_method_19_code
def yX5_drift : MethodName := ⟨RX5, "drift", "(I)I"⟩
abbrev cX5_corrected : ByteArray := prog_7_method_20_code
def yX5_corrected : MethodName := ⟨RX5, "corrected", "(II)I"⟩
abbrev cX5_struckIn : ByteArray := prog_7_method_21_code
def yX5_struckIn : MethodName := ⟨RX5, "struckIn", "(I)I"⟩
abbrev cX5_lacks : ByteArray := prog_7_method_22_code
def yX5_lacks : MethodName := ⟨RX5, "lacks", "(III)I"⟩
abbrev cX5_why : ByteArray := prog_7_method_23_code
def yX5_why : MethodName := ⟨RX5, "why", "(III)I"⟩
abbrev cX5_apart : ByteArray := prog_7_method_24_code
def yX5_apart : MethodName := ⟨RX5, "apart", "(III)I"⟩
abbrev cX5_mean : ByteArray := prog_7_method_25_code
def yX5_mean : MethodName := ⟨RX5, "mean", "(III)I"⟩
abbrev cX5_sight : ByteArray := prog_7_method_26_code
def yX5_sight : MethodName := ⟨RX5, "sight", "(III)I"⟩
abbrev cX5_reducedIn : ByteArray := prog_7_method_27_code
def yX5_reducedIn : MethodName := ⟨RX5, "reducedIn", "(III)I"⟩
abbrev cX5_roundsOf : ByteArray := prog_7_method_28_code
def yX5_roundsOf : MethodName := ⟨RX5, "roundsOf", "(II)I"⟩
abbrev cX5_directed : ByteArray := prog_7_method_29_code
def yX5_directed : MethodName := ⟨RX5, "directed", "(II)I"⟩
abbrev cX5_left : ByteArray := prog_7_method_30_code
def yX5_left : MethodName := ⟨RX5, "left", "(III)I"⟩
abbrev cX5_isBad : ByteArray := prog_7_method_31_code
def yX5_isBad : MethodName := ⟨RX5, "isBad", "(III)Z"⟩
abbrev cX5_bad : ByteArray := prog_7_method_32_code
def yX5_bad : MethodName := ⟨RX5, "bad", "(II)I"⟩
abbrev cX5_setUp : ByteArray := prog_7_method_33_code
def yX5_setUp : MethodName := ⟨RX5, "setUp", "()I"⟩
abbrev cX5_begin : ByteArray := prog_7_method_34_code
def yX5_begin : MethodName := ⟨RX5, "begin", "(I)I"⟩
abbrev cX5_canPoint : ByteArray := prog_7_method_35_code
def yX5_canPoint : MethodName := ⟨RX5, "canPoint", "(II)Z"⟩
abbrev cX5_points : ByteArray := prog_7_method_36_code
def yX5_points : MethodName := ⟨RX5, "points", "(III)I"⟩
abbrev cX5_point : ByteArray := prog_7_method_37_code
def yX5_point : MethodName := ⟨RX5, "point", "(IIIII)I"⟩
abbrev cX5_close : ByteArray := prog_7_method_38_code
def yX5_close : MethodName := ⟨RX5, "close", "(IIII)I"⟩
abbrev cX5_struckOf : ByteArray := prog_7_method_39_code
def yX5_struckOf : MethodName := ⟨RX5, "struckOf", "(II)I"⟩
abbrev cX5_strike : ByteArray := prog_7_method_40_code
def yX5_strike : MethodName := ⟨RX5, "strike", "(IIIIZ)I"⟩
abbrev cX5_isFirstOfClosed : ByteArray := prog_7_method_41_code
def yX5_isFirstOfClosed : MethodName := ⟨RX5, "isFirstOfClosed", "(II)Z"⟩
abbrev cX5_wipes : ByteArray := prog_7_method_42_code
def yX5_wipes : MethodName := ⟨RX5, "wipes", "(II)I"⟩
abbrev cX5_wipe : ByteArray := prog_7_method_43_code
def yX5_wipe : MethodName := ⟨RX5, "wipe", "(III)I"⟩
abbrev cX5_worst : ByteArray := prog_7_method_44_code
def yX5_worst : MethodName := ⟨RX5, "worst", "(I)I"⟩
abbrev cX5_clean : ByteArray := prog_7_method_45_code
def yX5_clean : MethodName := ⟨RX5, "clean", "(I)I"⟩
abbrev cX5_setLimit : ByteArray := prog_7_method_46_code
def yX5_setLimit : MethodName := ⟨RX5, "setLimit", "(I)I"⟩
abbrev cX5_centre : ByteArray := prog_7_method_47_code
def yX5_centre : MethodName := ⟨RX5, "centre", "(III)I"⟩
abbrev cX5_setDistance : ByteArray := prog_7_method_48_code
def yX5_setDistance : MethodName := ⟨RX5, "setDistance", "(II)I"⟩
abbrev cX5_type : ByteArray := prog_7_method_49_code
def yX5_type : MethodName := ⟨RX5, "type", "(C)I"⟩
abbrev cX5_clearText : ByteArray := prog_7_method_50_code
def yX5_clearText : MethodName := ⟨RX5, "clearText", "()I"⟩
abbrev cX5_sign : ByteArray := prog_7_method_51_code
def yX5_sign : MethodName := ⟨RX5, "sign", "(II)I"⟩
abbrev cX5_number : ByteArray := prog_7_method_52_code
def yX5_number : MethodName := ⟨RX5, "number", "(I)I"⟩
abbrev cX5_go : ByteArray := prog_7_method_53_code
def yX5_go : MethodName := ⟨RX5, "go", "(IIZ)I"⟩
abbrev cX5_pointAll : ByteArray := prog_7_method_54_code
def yX5_pointAll : MethodName := ⟨RX5, "pointAll", "(II)I"⟩
abbrev cX5_undo : ByteArray := prog_7_method_55_code
def yX5_undo : MethodName := ⟨RX5, "undo", "()I"⟩
abbrev cX5_keep : ByteArray := prog_7_method_56_code
def yX5_keep : MethodName := ⟨RX5, "keep", "()I"⟩
abbrev cX5_restore : ByteArray := prog_7_method_57_code
def yX5_restore : MethodName := ⟨RX5, "restore", "()I"⟩
abbrev cX5_pointing : ByteArray := prog_7_method_58_code
def yX5_pointing : MethodName := ⟨RX5, "pointing", "(IIIII)I"⟩
abbrev cX5_used : ByteArray := prog_7_method_59_code
def yX5_used : MethodName := ⟨RX5, "used", "(II)I"⟩
abbrev cX5_meanSight : ByteArray := prog_7_method_60_code
def yX5_meanSight : MethodName := ⟨RX5, "meanSight", "(II)I"⟩
abbrev cX5_round : ByteArray := prog_7_method_61_code
def yX5_round : MethodName := ⟨RX5, "round", "(III)I"⟩
abbrev cX5_reduced : ByteArray := prog_7_method_62_code
def yX5_reduced : MethodName := ⟨RX5, "reduced", "(IIII)I"⟩
abbrev cX5_sine : ByteArray := prog_7_method_63_code
def yX5_sine : MethodName := ⟨RX5, "sine", "(I)I"⟩
abbrev cX5_sineOf : ByteArray := prog_7_method_64_code
def yX5_sineOf : MethodName := ⟨RX5, "sineOf", "(I)I"⟩
abbrev cX5_correction : ByteArray := prog_7_method_65_code
def yX5_correction : MethodName := ⟨RX5, "correction", "(III)I"⟩
abbrev cX5_centred : ByteArray := prog_7_method_66_code
def yX5_centred : MethodName := ⟨RX5, "centred", "(III)I"⟩
abbrev cX5_mostLeft : ByteArray := prog_7_method_67_code
def yX5_mostLeft : MethodName := ⟨RX5, "mostLeft", "(II)I"⟩
abbrev cX5_direction : ByteArray := prog_7_method_68_code
def yX5_direction : MethodName := ⟨RX5, "direction", "(III)I"⟩
abbrev cX5_angle : ByteArray := prog_7_method_69_code
def yX5_angle : MethodName := ⟨RX5, "angle", "(IIIZ)I"⟩
abbrev cX5_byAngles : ByteArray := prog_7_method_70_code
def yX5_byAngles : MethodName := ⟨RX5, "byAngles", "(II)I"⟩
abbrev cX5_sum : ByteArray := prog_7_method_71_code
def yX5_sum : MethodName := ⟨RX5, "sum", "(I)I"⟩
abbrev cX5_many : ByteArray := prog_7_method_72_code
def yX5_many : MethodName := ⟨RX5, "many", "(I)I"⟩
abbrev cX5_count : ByteArray := prog_7_method_73_code
def yX5_count : MethodName := ⟨RX5, "count", "(I)I"⟩
abbrev cX5_centring : ByteArray := prog_7_method_74_code
def yX5_centring : MethodName := ⟨RX5, "centring", "(IZ)I"⟩
def RJ6 : String := "java/lang/Integer"
abbrev cJ6_bitCount_0f7a4 : ByteArray := prog_8_method_49_code
def yJ6_bitCount_0f7a4 : MethodName := ⟨RJ6, "bitCount", "(I)I"⟩
def RJ9 : String := "java/lang/Math"
abbrev cJ9_floorDiv_7cf53 : ByteArray := prog_9_method_47_code
def yJ9_floorDiv_7cf53 : MethodName := ⟨RJ9, "floorDiv", "(II)I"⟩
abbrev cJ9_floorMod_7cf53 : ByteArray := prog_9_method_50_code
def yJ9_floorMod_7cf53 : MethodName := ⟨RJ9, "floorMod", "(II)I"⟩
abbrev cJ9_abs_0f7a4 : ByteArray := prog_9_method_59_code
def yJ9_abs_0f7a4 : MethodName := ⟨RJ9, "abs", "(I)I"⟩
abbrev cJ9_max_7cf53 : ByteArray := prog_9_method_65_code
def yJ9_max_7cf53 : MethodName := ⟨RJ9, "max", "(II)I"⟩
def RJ10 : String := "java/lang/System"
def RJ7 : String := "java/util/Arrays"
abbrev cJ7_fill_53178 : ByteArray := prog_11_method_103_code
def yJ7_fill_53178 : MethodName := ⟨RJ7, "fill", "([II)V"⟩
def RL : String := "FaceRoundsLaw"
abbrev cL_law : ByteArray := code
def yL_law : MethodName := ⟨RL, "law", "([I)Z"⟩
abbrev vwCl : List vw_C := [(RX0, TX0, 2), (RX1, TX1, 7), (RX2, TX2, 6), (RX3, TX3, 11), (RX4, TX4, 6), (RX5, TX5, 11)]
end
section
/-! AN OWN SMALL MACHINE: one frame's steps as a proposition that is computed.
A world: how many cells; the kind of each ((0, class) an object, (t + 1, n) an array of n: t 0 char, 1 int, 2 boolean, 3 State); numbers; references. -/
abbrev aW : Type := Nat × (Nat → Nat × Nat) × (Nat → Nat → Int32) × (Nat → Nat → Option Nat)
/-- a row: pc, instruction, length, a, b, place of a word, flag, an int, a long, a switch's targets -/
abbrev aI : Type := Nat × Instr × Nat × Nat × Nat × Nat × Nat × Int32 × Int64 × List (Int32 × Nat)
/-- a method: name, bytes, locals, what is returned, parameters, new cells, new slots, its code word's place, rows -/
abbrev aM : Type := MethodName × ByteArray × Nat × Option FieldType × Nat × Nat × Nat × Nat × List aI
abbrev aL : Type := List (Option Value)
abbrev aK : Type := Nat → aL → List Value → aW → Nat × Nat → Prop
def am_look : List aI → Nat → Option aI
  | [], _ => none
  | x :: t, pc => match Nat.beq x.1 pc with
    | true => some x
    | false => am_look t pc
def am_nth : aL → Nat → Option Value
  | [], _ => none
  | o :: _, 0 => o
  | _ :: t, i + 1 => am_nth t i
def am_up : aL → Nat → Option Value → aL
  | [], _, _ => []
  | _ :: t, 0, v => v :: t
  | o :: t, i + 1, v => o :: am_up t i v
/-- the place ahead holds no long -/
def am_nl (lc : aL) : Nat → Bool
  | 0 => true
  | i + 1 => match am_nth lc i with
    | some (.long _) => false
    | some (.double _) => false
    | _ => true
def am_sv (lc : aL) (i : Nat) (v : Value) (f : aL → Prop) : Prop := match am_nl lc i with
  | true => f (am_up lc i (some v))
  | false => False
def am_sl (lc : aL) (i : Nat) (x : Int64) (f : aL → Prop) : Prop := match am_nl lc i with
  | true => f (am_up (am_up lc i (some (.long x))) (i + 1) none)
  | false => False
def am_gi (lc : aL) (i : Nat) (f : Int32 → Prop) : Prop := match am_nth lc i with
  | some (.int x) => f x
  | _ => False
def am_gl (lc : aL) (i : Nat) (f : Int64 → Prop) : Prop := match am_nth lc i with
  | some (.long x) => f x
  | _ => False
def am_ga (lc : aL) (i : Nat) (f : Value → Prop) : Prop := match am_nth lc i with
  | some (.ref j) => f (.ref j)
  | some (.retAddr j) => f (.retAddr j)
  | _ => False
def am_i (st : List Value) (f : Int32 → List Value → Prop) : Prop := match st with
  | .int x :: r => f x r
  | _ => False
def am_ii (st : List Value) (f : Int32 → Int32 → List Value → Prop) : Prop := match st with
  | .int y :: .int x :: r => f x y r
  | _ => False
def am_l (st : List Value) (f : Int64 → List Value → Prop) : Prop := match st with
  | .long x :: r => f x r
  | _ => False
def am_ll (st : List Value) (f : Int64 → Int64 → List Value → Prop) : Prop := match st with
  | .long y :: .long x :: r => f x y r
  | _ => False
def am_a (st : List Value) (f : Value → List Value → Prop) : Prop := match st with
  | .ref j :: r => f (.ref j) r
  | .retAddr j :: r => f (.retAddr j) r
  | _ => False
def am_cat1 : Value → Bool
  | .long _ => false
  | .double _ => false
  | _ => true
def am_c2 (c : ClassFile.Cond) (x y : Int32) (A B : Prop) : Prop := match c with
  | .eq => (x = y → A) ∧ (¬ x = y → B)
  | .ne => (¬ x = y → A) ∧ (x = y → B)
  | .lt => (x < y → A) ∧ (¬ x < y → B)
  | .ge => (y ≤ x → A) ∧ (¬ y ≤ x → B)
  | .gt => (y < x → A) ∧ (¬ y < x → B)
  | .le => (x ≤ y → A) ∧ (¬ x ≤ y → B)
def am_sw (x : Int32) (K : Nat → Prop) (D : Prop) : List (Int32 × Nat) → Prop
  | [] => D
  | q :: t => (x = q.1 → K q.2) ∧ (¬ x = q.1 → am_sw x K D t)
def am_sine (j : Nat) : Int32 := ([0, 259, 500, 707, 866, 966, 1000, 966, 866, 707, 500, 259, 0, -259, -500, -707, -866, -966, -1000, -966, -866, -707, -500, -259] : List Int32).getD j 0
/-- new worlds out of old ones -/
def am_u2 (C : Nat → Nat → Int32) (i k : Nat) (x : Int32) : Nat → Nat → Int32 := fun a b => if a = i then (if b = k then x else C a b) else C a b
def am_uF (F : Nat → Nat → Option Nat) (i k : Nat) (x : Option Nat) : Nat → Nat → Option Nat := fun a b => if a = i then (if b = k then x else F a b) else F a b
def am_uS (S : Nat → Nat × Nat) (i : Nat) (x : Nat × Nat) : Nat → Nat × Nat := fun a => if a = i then x else S a
def am_uR {α : Type} (C : Nat → α) (i : Nat) (x : α) : Nat → α := fun a => if a = i then x else C a
def am_wC (w : aW) (C : Nat → Nat → Int32) : aW := (w.1, w.2.1, C, w.2.2.2)
def am_wF (w : aW) (F : Nat → Nat → Option Nat) : aW := (w.1, w.2.1, w.2.2.1, F)
/-- one more cell -/
def am_wN (w : aW) (q : Nat × Nat) : aW := (w.1 + 1, am_uS w.2.1 w.1 q, am_uR w.2.2.1 w.1 (fun _ => 0), am_uR w.2.2.2 w.1 (fun _ => none))
def am_room (u cap : Nat × Nat) (f : Prop) : Prop := match Nat.ble u.1 cap.1 && Nat.ble u.2 cap.2 with
  | true => f
  | false => False
/-- the arguments off the stack, the last one on top -/
def am_pop : Nat → List Value → List Value → (List Value → List Value → Prop) → Prop
  | 0, st, acc, f => f acc st
  | _ + 1, [], _, _ => False
  | n + 1, v :: st, acc, f => am_pop n st (v :: acc) f
def am_cs : List Value → Nat
  | [] => 0
  | .long _ :: r => am_cs r + 2
  | .double _ :: r => am_cs r + 2
  | _ :: r => am_cs r + 1
def am_cs8 (r : List Value) (f : Prop) : Prop := match Nat.ble (am_cs r) 8 with
  | true => f
  | false => False
/-- an object of class ci -/
def am_ob (w : aW) (i ci : Nat) (f : Prop) : Prop := match Nat.blt i w.1, w.2.1 i with
  | true, (0, c) => (match Nat.beq c ci with
    | true => f
    | false => False)
  | _, _ => False
/-- an array of kind t: its length -/
def am_ar (w : aW) (i t : Nat) (f : Nat → Prop) : Prop := match Nat.blt i w.1, w.2.1 i with
  | true, (t' + 1, n) => (match Nat.beq t' t with
    | true => f n
    | false => False)
  | _, _ => False
def am_alen (w : aW) (i : Nat) (f : Nat → Prop) : Prop := match Nat.blt i w.1, w.2.1 i with
  | true, (t + 1, n) => (match Nat.blt t 4 with
    | true => f n
    | false => False)
  | _, _ => False
def am_at (t : Nat) : FieldType := match t with
  | 0 => .char
  | 1 => .int
  | 2 => .boolean
  | _ => .object "FaceRounds$State"
def am_nar (t : Nat) (x : Int32) : Int32 := match t with
  | 0 => vp_nar .char x
  | 1 => x
  | _ => vp_nar .boolean x
end
section
/-! the methods: name, bytes, locals, what is returned, parameters, new cells and slots, the place of its code word, its rows -/
def am_t0 : List aI := [(0, .aload_n 0, 1, 0, 0, 0, 0, 0, 0, []), (1, .invokespecial 3, 3, 0, 2, 138, 0, 0, 0, []), (4, .aload_n 0, 1, 0, 0, 0, 0, 0, 0, []), (5, .iconst 4, 1, 0, 0, 0, 0, 4, 0, []), (6, .anewarray 9, 3, 4, 3, 139, 0, 4, 0, []), (9, .putfield 11, 3, 0, 0, 142, 1, 0, 0, []), (12, .aload_n 0, 1, 0, 0, 0, 0, 0, 0, []), (13, .iconst 0, 1, 0, 0, 0, 0, 0, 0, []), (14, .putfield 17, 3, 0, 1, 143, 0, 0, 0, []), (17, .iconst 0, 1, 0, 0, 0, 0, 0, 0, []), (18, .istore_n 1, 1, 0, 0, 0, 0, 0, 0, []), (19, .iload_n 1, 1, 0, 0, 0, 0, 0, 0, []), (20, .iconst 4, 1, 0, 0, 0, 0, 4, 0, []), (21, .if_icmp .ge 22, 3, 43, 0, 0, 0, 0, 0, []), (24, .aload_n 0, 1, 0, 0, 0, 0, 0, 0, []), (25, .getfield 11, 3, 0, 0, 142, 1, 0, 0, []), (28, .iload_n 1, 1, 0, 0, 0, 0, 0, 0, []), (29, .new 9, 3, 3, 59, 139, 11, 77, 0, []), (32, .dup, 1, 0, 0, 0, 0, 0, 0, []), (33, .invokespecial 21, 3, 30, 0, 141, 0, 0, 0, []), (36, .aastore, 1, 0, 0, 0, 0, 0, 0, []), (37, .iinc 1 1, 3, 0, 0, 0, 0, 1, 0, []), (40, .goto (-21), 3, 19, 0, 0, 0, 0, 0, []), (43, .return_, 1, 0, 0, 0, 0, 0, 0, [])]
def am_t1 : List aI := [(0, .aload_n 0, 1, 0, 0, 0, 0, 0, 0, []), (1, .getfield 17, 3, 0, 1, 143, 0, 0, 0, []), (4, .iconst 4, 1, 0, 0, 0, 0, 4, 0, []), (5, .if_icmp .ne 7, 3, 12, 0, 0, 0, 0, 0, []), (8, .aload_n 0, 1, 0, 0, 0, 0, 0, 0, []), (9, .invokevirtual 22, 3, 3, 0, 243, 0, 0, 0, []), (12, .aload_n 0, 1, 0, 0, 0, 0, 0, 0, []), (13, .getfield 11, 3, 0, 0, 142, 1, 0, 0, []), (16, .aload_n 0, 1, 0, 0, 0, 0, 0, 0, []), (17, .getfield 17, 3, 0, 1, 143, 0, 0, 0, []), (20, .aaload, 1, 0, 0, 0, 0, 0, 0, []), (21, .aload_n 1, 1, 0, 0, 0, 0, 0, 0, []), (22, .invokevirtual 25, 3, 31, 3, 247, 0, 0, 0, []), (25, .aload_n 0, 1, 0, 0, 0, 0, 0, 0, []), (26, .dup, 1, 0, 0, 0, 0, 0, 0, []), (27, .getfield 17, 3, 0, 1, 143, 0, 0, 0, []), (30, .iconst 1, 1, 0, 0, 0, 0, 1, 0, []), (31, .iadd, 1, 0, 0, 0, 0, 0, 0, []), (32, .putfield 17, 3, 0, 1, 143, 0, 0, 0, []), (35, .return_, 1, 0, 0, 0, 0, 0, 0, [])]
def am_t2 : List aI := [(0, .aload_n 0, 1, 0, 0, 0, 0, 0, 0, []), (1, .getfield 17, 3, 0, 1, 143, 0, 0, 0, []), (4, .ifCond .ne 4, 3, 8, 0, 0, 0, 0, 0, []), (7, .return_, 1, 0, 0, 0, 0, 0, 0, []), (8, .aload_n 0, 1, 0, 0, 0, 0, 0, 0, []), (9, .dup, 1, 0, 0, 0, 0, 0, 0, []), (10, .getfield 17, 3, 0, 1, 143, 0, 0, 0, []), (13, .iconst 1, 1, 0, 0, 0, 0, 1, 0, []), (14, .isub, 1, 0, 0, 0, 0, 0, 0, []), (15, .putfield 17, 3, 0, 1, 143, 0, 0, 0, []), (18, .aload_n 1, 1, 0, 0, 0, 0, 0, 0, []), (19, .aload_n 0, 1, 0, 0, 0, 0, 0, 0, []), (20, .getfield 11, 3, 0, 0, 142, 1, 0, 0, []), (23, .aload_n 0, 1, 0, 0, 0, 0, 0, 0, []), (24, .getfield 17, 3, 0, 1, 143, 0, 0, 0, []), (27, .aaload, 1, 0, 0, 0, 0, 0, 0, []), (28, .invokevirtual 25, 3, 31, 3, 247, 0, 0, 0, []), (31, .return_, 1, 0, 0, 0, 0, 0, 0, [])]
def am_t3 : List aI := [(0, .aload_n 0, 1, 0, 0, 0, 0, 0, 0, []), (1, .getfield 11, 3, 0, 0, 142, 1, 0, 0, []), (4, .iconst 0, 1, 0, 0, 0, 0, 0, 0, []), (5, .aaload, 1, 0, 0, 0, 0, 0, 0, []), (6, .astore_n 1, 1, 0, 0, 0, 0, 0, 0, []), (7, .iconst 1, 1, 0, 0, 0, 0, 1, 0, []), (8, .istore_n 2, 1, 0, 0, 0, 0, 0, 0, []), (9, .iload_n 2, 1, 0, 0, 0, 0, 0, 0, []), (10, .iconst 4, 1, 0, 0, 0, 0, 4, 0, []), (11, .if_icmp .ge 23, 3, 34, 0, 0, 0, 0, 0, []), (14, .aload_n 0, 1, 0, 0, 0, 0, 0, 0, []), (15, .getfield 11, 3, 0, 0, 142, 1, 0, 0, []), (18, .iload_n 2, 1, 0, 0, 0, 0, 0, 0, []), (19, .iconst 1, 1, 0, 0, 0, 0, 1, 0, []), (20, .isub, 1, 0, 0, 0, 0, 0, 0, []), (21, .aload_n 0, 1, 0, 0, 0, 0, 0, 0, []), (22, .getfield 11, 3, 0, 0, 142, 1, 0, 0, []), (25, .iload_n 2, 1, 0, 0, 0, 0, 0, 0, []), (26, .aaload, 1, 0, 0, 0, 0, 0, 0, []), (27, .aastore, 1, 0, 0, 0, 0, 0, 0, []), (28, .iinc 2 1, 3, 0, 0, 0, 0, 1, 0, []), (31, .goto (-22), 3, 9, 0, 0, 0, 0, 0, []), (34, .aload_n 0, 1, 0, 0, 0, 0, 0, 0, []), (35, .getfield 11, 3, 0, 0, 142, 1, 0, 0, []), (38, .iconst 3, 1, 0, 0, 0, 0, 3, 0, []), (39, .aload_n 1, 1, 0, 0, 0, 0, 0, 0, []), (40, .aastore, 1, 0, 0, 0, 0, 0, 0, []), (41, .aload_n 0, 1, 0, 0, 0, 0, 0, 0, []), (42, .dup, 1, 0, 0, 0, 0, 0, 0, []), (43, .getfield 17, 3, 0, 1, 143, 0, 0, 0, []), (46, .iconst 1, 1, 0, 0, 0, 0, 1, 0, []), (47, .isub, 1, 0, 0, 0, 0, 0, 0, []), (48, .putfield 17, 3, 0, 1, 143, 0, 0, 0, []), (51, .return_, 1, 0, 0, 0, 0, 0, 0, [])]
def am_t4 : List aI := [(0, .aload_n 0, 1, 0, 0, 0, 0, 0, 0, []), (1, .invokespecial 3, 3, 0, 2, 155, 0, 0, 0, []), (4, .aload_n 0, 1, 0, 0, 0, 0, 0, 0, []), (5, .bipush 60, 2, 0, 0, 0, 0, 60, 0, []), (7, .newarray .char, 2, 60, 0, 184, 0, 60, 0, []), (9, .putfield 9, 3, 1, 0, 156, 1, 0, 0, []), (12, .aload_n 0, 1, 0, 0, 0, 0, 0, 0, []), (13, .iconst 0, 1, 0, 0, 0, 0, 0, 0, []), (14, .putfield 15, 3, 1, 1, 158, 0, 0, 0, []), (17, .aload_n 0, 1, 0, 0, 0, 0, 0, 0, []), (18, .bipush 7, 2, 0, 0, 0, 0, 7, 0, []), (20, .newarray .int, 2, 7, 1, 131, 0, 7, 0, []), (22, .putfield 19, 3, 1, 2, 160, 1, 0, 0, []), (25, .aload_n 0, 1, 0, 0, 0, 0, 0, 0, []), (26, .bipush 7, 2, 0, 0, 0, 0, 7, 0, []), (28, .newarray .int, 2, 7, 1, 131, 0, 7, 0, []), (30, .putfield 23, 3, 1, 3, 162, 1, 0, 0, []), (33, .aload_n 0, 1, 0, 0, 0, 0, 0, 0, []), (34, .bipush 7, 2, 0, 0, 0, 0, 7, 0, []), (36, .newarray .int, 2, 7, 1, 131, 0, 7, 0, []), (38, .putfield 26, 3, 1, 4, 164, 1, 0, 0, []), (41, .aload_n 0, 1, 0, 0, 0, 0, 0, 0, []), (42, .iconst 0, 1, 0, 0, 0, 0, 0, 0, []), (43, .putfield 29, 3, 1, 5, 166, 0, 0, 0, []), (46, .aload_n 0, 1, 0, 0, 0, 0, 0, 0, []), (47, .iconst 0, 1, 0, 0, 0, 0, 0, 0, []), (48, .putfield 32, 3, 1, 6, 168, 0, 0, 0, []), (51, .return_, 1, 0, 0, 0, 0, 0, 0, [])]
def am_t5 : List aI := [(0, .aload_n 0, 1, 0, 0, 0, 0, 0, 0, []), (1, .iconst 0, 1, 0, 0, 0, 0, 0, 0, []), (2, .putfield 32, 3, 1, 6, 168, 0, 0, 0, []), (5, .aload_n 0, 1, 0, 0, 0, 0, 0, 0, []), (6, .iconst 0, 1, 0, 0, 0, 0, 0, 0, []), (7, .putfield 29, 3, 1, 5, 166, 0, 0, 0, []), (10, .iconst 0, 1, 0, 0, 0, 0, 0, 0, []), (11, .istore_n 1, 1, 0, 0, 0, 0, 0, 0, []), (12, .iload_n 1, 1, 0, 0, 0, 0, 0, 0, []), (13, .bipush 7, 2, 0, 0, 0, 0, 7, 0, []), (15, .if_icmp .gt 48, 3, 63, 0, 0, 0, 0, 0, []), (18, .aload_n 0, 1, 0, 0, 0, 0, 0, 0, []), (19, .invokevirtual 35, 3, 6, 1, 311, 1, 0, 0, []), (22, .ifCond .ne 8, 3, 30, 0, 0, 0, 0, 0, []), (25, .aload_n 0, 1, 0, 0, 0, 0, 0, 0, []), (26, .getfield 32, 3, 1, 6, 168, 0, 0, 0, []), (29, .ireturn, 1, 0, 0, 0, 0, 0, 0, []), (30, .aload_n 0, 1, 0, 0, 0, 0, 0, 0, []), (31, .getfield 32, 3, 1, 6, 168, 0, 0, 0, []), (34, .aload_n 0, 1, 0, 0, 0, 0, 0, 0, []), (35, .getfield 15, 3, 1, 1, 158, 0, 0, 0, []), (38, .if_icmp .ne 5, 3, 43, 0, 0, 0, 0, 0, []), (41, .iconst (-1), 1, 0, 0, 0, 0, (-1), 0, []), (42, .ireturn, 1, 0, 0, 0, 0, 0, 0, []), (43, .aload_n 0, 1, 0, 0, 0, 0, 0, 0, []), (44, .bipush 59, 2, 0, 0, 0, 0, 59, 0, []), (46, .invokevirtual 39, 3, 12, 1, 327, 1, 0, 0, []), (49, .ifCond .ne 8, 3, 57, 0, 0, 0, 0, 0, []), (52, .aload_n 0, 1, 0, 0, 0, 0, 0, 0, []), (53, .getfield 32, 3, 1, 6, 168, 0, 0, 0, []), (56, .ireturn, 1, 0, 0, 0, 0, 0, 0, []), (57, .iinc 1 1, 3, 0, 0, 0, 0, 1, 0, []), (60, .goto (-48), 3, 12, 0, 0, 0, 0, 0, []), (63, .aload_n 0, 1, 0, 0, 0, 0, 0, 0, []), (64, .getfield 32, 3, 1, 6, 168, 0, 0, 0, []), (67, .ireturn, 1, 0, 0, 0, 0, 0, 0, [])]
def am_t6 : List aI := [(0, .aload_n 0, 1, 0, 0, 0, 0, 0, 0, []), (1, .invokevirtual 43, 3, 7, 1, 315, 1, 0, 0, []), (4, .istore_n 1, 1, 0, 0, 0, 0, 0, 0, []), (5, .iload_n 1, 1, 0, 0, 0, 0, 0, 0, []), (6, .iconst (-1), 1, 0, 0, 0, 0, (-1), 0, []), (7, .if_icmp .ne 5, 3, 12, 0, 0, 0, 0, 0, []), (10, .iconst 0, 1, 0, 0, 0, 0, 0, 0, []), (11, .ireturn, 1, 0, 0, 0, 1, 0, 0, []), (12, .aload_n 0, 1, 0, 0, 0, 0, 0, 0, []), (13, .invokevirtual 47, 3, 8, 1, 323, 1, 0, 0, []), (16, .istore_n 2, 1, 0, 0, 0, 0, 0, 0, []), (17, .iload_n 2, 1, 0, 0, 0, 0, 0, 0, []), (18, .iconst (-1), 1, 0, 0, 0, 0, (-1), 0, []), (19, .if_icmp .ne 5, 3, 24, 0, 0, 0, 0, 0, []), (22, .iconst 0, 1, 0, 0, 0, 0, 0, 0, []), (23, .ireturn, 1, 0, 0, 0, 1, 0, 0, []), (24, .aload_n 0, 1, 0, 0, 0, 0, 0, 0, []), (25, .invokevirtual 50, 3, 9, 1, 331, 1, 0, 0, []), (28, .istore_n 3, 1, 0, 0, 0, 0, 0, 0, []), (29, .iload_n 3, 1, 0, 0, 0, 0, 0, 0, []), (30, .iconst (-1), 1, 0, 0, 0, 0, (-1), 0, []), (31, .if_icmp .eq 12, 3, 43, 0, 0, 0, 0, 0, []), (34, .aload_n 0, 1, 0, 0, 0, 0, 0, 0, []), (35, .getfield 29, 3, 1, 5, 166, 0, 0, 0, []), (38, .bipush 7, 2, 0, 0, 0, 0, 7, 0, []), (40, .if_icmp .lt 5, 3, 45, 0, 0, 0, 0, 0, []), (43, .iconst 0, 1, 0, 0, 0, 0, 0, 0, []), (44, .ireturn, 1, 0, 0, 0, 1, 0, 0, []), (45, .aload_n 0, 1, 0, 0, 0, 0, 0, 0, []), (46, .getfield 19, 3, 1, 2, 160, 1, 0, 0, []), (49, .aload_n 0, 1, 0, 0, 0, 0, 0, 0, []), (50, .getfield 29, 3, 1, 5, 166, 0, 0, 0, []), (53, .iload_n 1, 1, 0, 0, 0, 0, 0, 0, []), (54, .iastore, 1, 0, 0, 0, 0, 0, 0, []), (55, .aload_n 0, 1, 0, 0, 0, 0, 0, 0, []), (56, .getfield 23, 3, 1, 3, 162, 1, 0, 0, []), (59, .aload_n 0, 1, 0, 0, 0, 0, 0, 0, []), (60, .getfield 29, 3, 1, 5, 166, 0, 0, 0, []), (63, .iload_n 2, 1, 0, 0, 0, 0, 0, 0, []), (64, .iastore, 1, 0, 0, 0, 0, 0, 0, []), (65, .aload_n 0, 1, 0, 0, 0, 0, 0, 0, []), (66, .getfield 26, 3, 1, 4, 164, 1, 0, 0, []), (69, .aload_n 0, 1, 0, 0, 0, 0, 0, 0, []), (70, .getfield 29, 3, 1, 5, 166, 0, 0, 0, []), (73, .iload_n 3, 1, 0, 0, 0, 0, 0, 0, []), (74, .iastore, 1, 0, 0, 0, 0, 0, 0, []), (75, .aload_n 0, 1, 0, 0, 0, 0, 0, 0, []), (76, .dup, 1, 0, 0, 0, 0, 0, 0, []), (77, .getfield 29, 3, 1, 5, 166, 0, 0, 0, []), (80, .iconst 1, 1, 0, 0, 0, 0, 1, 0, []), (81, .iadd, 1, 0, 0, 0, 0, 0, 0, []), (82, .putfield 29, 3, 1, 5, 166, 0, 0, 0, []), (85, .iconst 1, 1, 0, 0, 0, 0, 1, 0, []), (86, .ireturn, 1, 0, 0, 0, 1, 0, 0, [])]
def am_t7 : List aI := [(0, .aload_n 0, 1, 0, 0, 0, 0, 0, 0, []), (1, .invokevirtual 53, 3, 11, 1, 319, 1, 0, 0, []), (4, .istore_n 1, 1, 0, 0, 0, 0, 0, 0, []), (5, .iload_n 1, 1, 0, 0, 0, 0, 0, 0, []), (6, .iconst (-1), 1, 0, 0, 0, 0, (-1), 0, []), (7, .if_icmp .eq 9, 3, 16, 0, 0, 0, 0, 0, []), (10, .iload_n 1, 1, 0, 0, 0, 0, 0, 0, []), (11, .bipush 6, 2, 0, 0, 0, 0, 6, 0, []), (13, .if_icmp .lt 5, 3, 18, 0, 0, 0, 0, 0, []), (16, .iconst (-1), 1, 0, 0, 0, 0, (-1), 0, []), (17, .ireturn, 1, 0, 0, 0, 0, 0, 0, []), (18, .aload_n 0, 1, 0, 0, 0, 0, 0, 0, []), (19, .dup, 1, 0, 0, 0, 0, 0, 0, []), (20, .getfield 32, 3, 1, 6, 168, 0, 0, 0, []), (23, .iconst 1, 1, 0, 0, 0, 0, 1, 0, []), (24, .iadd, 1, 0, 0, 0, 0, 0, 0, []), (25, .putfield 32, 3, 1, 6, 168, 0, 0, 0, []), (28, .iload_n 1, 1, 0, 0, 0, 0, 0, 0, []), (29, .ireturn, 1, 0, 0, 0, 0, 0, 0, [])]
def am_t8 : List aI := [(0, .aload_n 0, 1, 0, 0, 0, 0, 0, 0, []), (1, .bipush 108, 2, 0, 0, 0, 0, 108, 0, []), (3, .invokevirtual 39, 3, 12, 1, 327, 1, 0, 0, []), (6, .ifCond .eq 5, 3, 11, 0, 0, 0, 0, 0, []), (9, .iconst 0, 1, 0, 0, 0, 0, 0, 0, []), (10, .ireturn, 1, 0, 0, 0, 0, 0, 0, []), (11, .aload_n 0, 1, 0, 0, 0, 0, 0, 0, []), (12, .bipush 114, 2, 0, 0, 0, 0, 114, 0, []), (14, .invokevirtual 39, 3, 12, 1, 327, 1, 0, 0, []), (17, .ifCond .eq 7, 3, 24, 0, 0, 0, 0, 0, []), (20, .iconst 1, 1, 0, 0, 0, 0, 1, 0, []), (21, .goto 4, 3, 25, 0, 0, 0, 0, 0, []), (24, .iconst (-1), 1, 0, 0, 0, 0, (-1), 0, []), (25, .ireturn, 1, 0, 0, 0, 0, 0, 0, [])]
def am_t9 : List aI := [(0, .aload_n 0, 1, 0, 0, 0, 0, 0, 0, []), (1, .sipush 359, 3, 0, 0, 0, 0, 359, 0, []), (4, .invokevirtual 56, 3, 10, 1, 335, 1, 0, 0, []), (7, .istore_n 1, 1, 0, 0, 0, 0, 0, 0, []), (8, .iload_n 1, 1, 0, 0, 0, 0, 0, 0, []), (9, .iconst (-1), 1, 0, 0, 0, 0, (-1), 0, []), (10, .if_icmp .eq 12, 3, 22, 0, 0, 0, 0, 0, []), (13, .aload_n 0, 1, 0, 0, 0, 0, 0, 0, []), (14, .bipush 58, 2, 0, 0, 0, 0, 58, 0, []), (16, .invokevirtual 39, 3, 12, 1, 327, 1, 0, 0, []), (19, .ifCond .ne 5, 3, 24, 0, 0, 0, 0, 0, []), (22, .iconst (-1), 1, 0, 0, 0, 0, (-1), 0, []), (23, .ireturn, 1, 0, 0, 0, 0, 0, 0, []), (24, .aload_n 0, 1, 0, 0, 0, 0, 0, 0, []), (25, .bipush 59, 2, 0, 0, 0, 0, 59, 0, []), (27, .invokevirtual 56, 3, 10, 1, 335, 1, 0, 0, []), (30, .istore_n 2, 1, 0, 0, 0, 0, 0, 0, []), (31, .iload_n 2, 1, 0, 0, 0, 0, 0, 0, []), (32, .iconst (-1), 1, 0, 0, 0, 0, (-1), 0, []), (33, .if_icmp .eq 12, 3, 45, 0, 0, 0, 0, 0, []), (36, .aload_n 0, 1, 0, 0, 0, 0, 0, 0, []), (37, .bipush 58, 2, 0, 0, 0, 0, 58, 0, []), (39, .invokevirtual 39, 3, 12, 1, 327, 1, 0, 0, []), (42, .ifCond .ne 5, 3, 47, 0, 0, 0, 0, 0, []), (45, .iconst (-1), 1, 0, 0, 0, 0, (-1), 0, []), (46, .ireturn, 1, 0, 0, 0, 0, 0, 0, []), (47, .aload_n 0, 1, 0, 0, 0, 0, 0, 0, []), (48, .bipush 59, 2, 0, 0, 0, 0, 59, 0, []), (50, .invokevirtual 56, 3, 10, 1, 335, 1, 0, 0, []), (53, .istore_n 3, 1, 0, 0, 0, 0, 0, 0, []), (54, .iload_n 3, 1, 0, 0, 0, 0, 0, 0, []), (55, .iconst (-1), 1, 0, 0, 0, 0, (-1), 0, []), (56, .if_icmp .ne 5, 3, 61, 0, 0, 0, 0, 0, []), (59, .iconst (-1), 1, 0, 0, 0, 0, (-1), 0, []), (60, .ireturn, 1, 0, 0, 0, 0, 0, 0, []), (61, .iload_n 1, 1, 0, 0, 0, 0, 0, 0, []), (62, .bipush 60, 2, 0, 0, 0, 0, 60, 0, []), (64, .imul, 1, 0, 0, 0, 0, 0, 0, []), (65, .iload_n 2, 1, 0, 0, 0, 0, 0, 0, []), (66, .iadd, 1, 0, 0, 0, 0, 0, 0, []), (67, .bipush 60, 2, 0, 0, 0, 0, 60, 0, []), (69, .imul, 1, 0, 0, 0, 0, 0, 0, []), (70, .iload_n 3, 1, 0, 0, 0, 0, 0, 0, []), (71, .iadd, 1, 0, 0, 0, 0, 0, 0, []), (72, .ireturn, 1, 0, 0, 0, 0, 0, 0, [])]
def am_t10 : List aI := [(0, .aload_n 0, 1, 0, 0, 0, 0, 0, 0, []), (1, .invokevirtual 53, 3, 11, 1, 319, 1, 0, 0, []), (4, .istore_n 2, 1, 0, 0, 0, 0, 0, 0, []), (5, .iload_n 2, 1, 0, 0, 0, 0, 0, 0, []), (6, .iconst (-1), 1, 0, 0, 0, 0, (-1), 0, []), (7, .if_icmp .ne 5, 3, 12, 0, 0, 0, 0, 0, []), (10, .iconst (-1), 1, 0, 0, 0, 0, (-1), 0, []), (11, .ireturn, 1, 0, 0, 0, 0, 0, 0, []), (12, .aload_n 0, 1, 0, 0, 0, 0, 0, 0, []), (13, .dup, 1, 0, 0, 0, 0, 0, 0, []), (14, .getfield 32, 3, 1, 6, 168, 0, 0, 0, []), (17, .iconst 1, 1, 0, 0, 0, 0, 1, 0, []), (18, .iadd, 1, 0, 0, 0, 0, 0, 0, []), (19, .putfield 32, 3, 1, 6, 168, 0, 0, 0, []), (22, .aload_n 0, 1, 0, 0, 0, 0, 0, 0, []), (23, .getfield 32, 3, 1, 6, 168, 0, 0, 0, []), (26, .aload_n 0, 1, 0, 0, 0, 0, 0, 0, []), (27, .getfield 15, 3, 1, 1, 158, 0, 0, 0, []), (30, .if_icmp .ge 49, 3, 79, 0, 0, 0, 0, 0, []), (33, .iload_n 2, 1, 0, 0, 0, 0, 0, 0, []), (34, .ifCond .le 45, 3, 79, 0, 0, 0, 0, 0, []), (37, .aload_n 0, 1, 0, 0, 0, 0, 0, 0, []), (38, .invokevirtual 53, 3, 11, 1, 319, 1, 0, 0, []), (41, .istore_n 3, 1, 0, 0, 0, 0, 0, 0, []), (42, .iload_n 3, 1, 0, 0, 0, 0, 0, 0, []), (43, .iconst (-1), 1, 0, 0, 0, 0, (-1), 0, []), (44, .if_icmp .eq 13, 3, 57, 0, 0, 0, 0, 0, []), (47, .iload_n 2, 1, 0, 0, 0, 0, 0, 0, []), (48, .bipush 10, 2, 0, 0, 0, 0, 10, 0, []), (50, .imul, 1, 0, 0, 0, 0, 0, 0, []), (51, .iload_n 3, 1, 0, 0, 0, 0, 0, 0, []), (52, .iadd, 1, 0, 0, 0, 0, 0, 0, []), (53, .iload_n 1, 1, 0, 0, 0, 0, 0, 0, []), (54, .if_icmp .le 5, 3, 59, 0, 0, 0, 0, 0, []), (57, .iload_n 2, 1, 0, 0, 0, 0, 0, 0, []), (58, .ireturn, 1, 0, 0, 0, 0, 0, 0, []), (59, .iload_n 2, 1, 0, 0, 0, 0, 0, 0, []), (60, .bipush 10, 2, 0, 0, 0, 0, 10, 0, []), (62, .imul, 1, 0, 0, 0, 0, 0, 0, []), (63, .iload_n 3, 1, 0, 0, 0, 0, 0, 0, []), (64, .iadd, 1, 0, 0, 0, 0, 0, 0, []), (65, .istore_n 2, 1, 0, 0, 0, 0, 0, 0, []), (66, .aload_n 0, 1, 0, 0, 0, 0, 0, 0, []), (67, .dup, 1, 0, 0, 0, 0, 0, 0, []), (68, .getfield 32, 3, 1, 6, 168, 0, 0, 0, []), (71, .iconst 1, 1, 0, 0, 0, 0, 1, 0, []), (72, .iadd, 1, 0, 0, 0, 0, 0, 0, []), (73, .putfield 32, 3, 1, 6, 168, 0, 0, 0, []), (76, .goto (-54), 3, 22, 0, 0, 0, 0, 0, []), (79, .iload_n 2, 1, 0, 0, 0, 0, 0, 0, []), (80, .ireturn, 1, 0, 0, 0, 0, 0, 0, [])]
def am_t11 : List aI := [(0, .aload_n 0, 1, 0, 0, 0, 0, 0, 0, []), (1, .getfield 32, 3, 1, 6, 168, 0, 0, 0, []), (4, .aload_n 0, 1, 0, 0, 0, 0, 0, 0, []), (5, .getfield 15, 3, 1, 1, 158, 0, 0, 0, []), (8, .if_icmp .ge 31, 3, 39, 0, 0, 0, 0, 0, []), (11, .aload_n 0, 1, 0, 0, 0, 0, 0, 0, []), (12, .getfield 9, 3, 1, 0, 156, 1, 0, 0, []), (15, .aload_n 0, 1, 0, 0, 0, 0, 0, 0, []), (16, .getfield 32, 3, 1, 6, 168, 0, 0, 0, []), (19, .caload, 1, 0, 0, 0, 0, 0, 0, []), (20, .bipush 48, 2, 0, 0, 0, 0, 48, 0, []), (22, .if_icmp .lt 17, 3, 39, 0, 0, 0, 0, 0, []), (25, .aload_n 0, 1, 0, 0, 0, 0, 0, 0, []), (26, .getfield 9, 3, 1, 0, 156, 1, 0, 0, []), (29, .aload_n 0, 1, 0, 0, 0, 0, 0, 0, []), (30, .getfield 32, 3, 1, 6, 168, 0, 0, 0, []), (33, .caload, 1, 0, 0, 0, 0, 0, 0, []), (34, .bipush 57, 2, 0, 0, 0, 0, 57, 0, []), (36, .if_icmp .le 5, 3, 41, 0, 0, 0, 0, 0, []), (39, .iconst (-1), 1, 0, 0, 0, 0, (-1), 0, []), (40, .ireturn, 1, 0, 0, 0, 0, 0, 0, []), (41, .aload_n 0, 1, 0, 0, 0, 0, 0, 0, []), (42, .getfield 9, 3, 1, 0, 156, 1, 0, 0, []), (45, .aload_n 0, 1, 0, 0, 0, 0, 0, 0, []), (46, .getfield 32, 3, 1, 6, 168, 0, 0, 0, []), (49, .caload, 1, 0, 0, 0, 0, 0, 0, []), (50, .bipush 48, 2, 0, 0, 0, 0, 48, 0, []), (52, .isub, 1, 0, 0, 0, 0, 0, 0, []), (53, .ireturn, 1, 0, 0, 0, 0, 0, 0, [])]
def am_t12 : List aI := [(0, .aload_n 0, 1, 0, 0, 0, 0, 0, 0, []), (1, .getfield 32, 3, 1, 6, 168, 0, 0, 0, []), (4, .aload_n 0, 1, 0, 0, 0, 0, 0, 0, []), (5, .getfield 15, 3, 1, 1, 158, 0, 0, 0, []), (8, .if_icmp .ge 16, 3, 24, 0, 0, 0, 0, 0, []), (11, .aload_n 0, 1, 0, 0, 0, 0, 0, 0, []), (12, .getfield 9, 3, 1, 0, 156, 1, 0, 0, []), (15, .aload_n 0, 1, 0, 0, 0, 0, 0, 0, []), (16, .getfield 32, 3, 1, 6, 168, 0, 0, 0, []), (19, .caload, 1, 0, 0, 0, 0, 0, 0, []), (20, .iload_n 1, 1, 0, 0, 0, 0, 0, 0, []), (21, .if_icmp .eq 5, 3, 26, 0, 0, 0, 0, 0, []), (24, .iconst 0, 1, 0, 0, 0, 0, 0, 0, []), (25, .ireturn, 1, 0, 0, 0, 1, 0, 0, []), (26, .aload_n 0, 1, 0, 0, 0, 0, 0, 0, []), (27, .dup, 1, 0, 0, 0, 0, 0, 0, []), (28, .getfield 32, 3, 1, 6, 168, 0, 0, 0, []), (31, .iconst 1, 1, 0, 0, 0, 0, 1, 0, []), (32, .iadd, 1, 0, 0, 0, 0, 0, 0, []), (33, .putfield 32, 3, 1, 6, 168, 0, 0, 0, []), (36, .iconst 1, 1, 0, 0, 0, 0, 1, 0, []), (37, .ireturn, 1, 0, 0, 0, 1, 0, 0, [])]
def am_t13 : List aI := [(0, .aload_n 0, 1, 0, 0, 0, 0, 0, 0, []), (1, .invokespecial 3, 3, 0, 2, 190, 0, 0, 0, []), (4, .aload_n 0, 1, 0, 0, 0, 0, 0, 0, []), (5, .iconst 0, 1, 0, 0, 0, 0, 0, 0, []), (6, .putfield 9, 3, 2, 0, 191, 0, 0, 0, []), (9, .aload_n 0, 1, 0, 0, 0, 0, 0, 0, []), (10, .bipush 6, 2, 0, 0, 0, 0, 6, 0, []), (12, .newarray .int, 2, 6, 1, 131, 0, 6, 0, []), (14, .putfield 15, 3, 2, 1, 192, 1, 0, 0, []), (17, .aload_n 0, 1, 0, 0, 0, 0, 0, 0, []), (18, .bipush 36, 2, 0, 0, 0, 0, 36, 0, []), (20, .newarray .int, 2, 36, 1, 131, 0, 36, 0, []), (22, .putfield 19, 3, 2, 2, 194, 1, 0, 0, []), (25, .aload_n 0, 1, 0, 0, 0, 0, 0, 0, []), (26, .bipush 36, 2, 0, 0, 0, 0, 36, 0, []), (28, .newarray .int, 2, 36, 1, 131, 0, 36, 0, []), (30, .putfield 22, 3, 2, 3, 196, 1, 0, 0, []), (33, .aload_n 0, 1, 0, 0, 0, 0, 0, 0, []), (34, .bipush 36, 2, 0, 0, 0, 0, 36, 0, []), (36, .newarray .int, 2, 36, 1, 131, 0, 36, 0, []), (38, .putfield 25, 3, 2, 4, 198, 1, 0, 0, []), (41, .aload_n 0, 1, 0, 0, 0, 0, 0, 0, []), (42, .bipush 6, 2, 0, 0, 0, 0, 6, 0, []), (44, .newarray .int, 2, 6, 1, 131, 0, 6, 0, []), (46, .putfield 28, 3, 2, 5, 200, 1, 0, 0, []), (49, .return_, 1, 0, 0, 0, 0, 0, 0, [])]
def am_t14 : List aI := [(0, .aload_n 0, 1, 0, 0, 0, 0, 0, 0, []), (1, .aload_n 1, 1, 0, 0, 0, 0, 0, 0, []), (2, .getfield 31, 3, 3, 2, 90, 1, 0, 0, []), (5, .iload_n 2, 1, 0, 0, 0, 0, 0, 0, []), (6, .iaload, 1, 0, 0, 0, 0, 0, 0, []), (7, .putfield 9, 3, 2, 0, 191, 0, 0, 0, []), (10, .iconst 0, 1, 0, 0, 0, 0, 0, 0, []), (11, .istore_n 3, 1, 0, 0, 0, 0, 0, 0, []), (12, .iload_n 3, 1, 0, 0, 0, 0, 0, 0, []), (13, .aload_n 0, 1, 0, 0, 0, 0, 0, 0, []), (14, .getfield 9, 3, 2, 0, 191, 0, 0, 0, []), (17, .if_icmp .ge 16, 3, 33, 0, 0, 0, 0, 0, []), (20, .aload_n 0, 1, 0, 0, 0, 0, 0, 0, []), (21, .aload_n 1, 1, 0, 0, 0, 0, 0, 0, []), (22, .iload_n 2, 1, 0, 0, 0, 0, 0, 0, []), (23, .iload_n 3, 1, 0, 0, 0, 0, 0, 0, []), (24, .invokevirtual 35, 3, 15, 2, 389, 0, 0, 0, []), (27, .iinc 3 1, 3, 0, 0, 0, 0, 1, 0, []), (30, .goto (-18), 3, 12, 0, 0, 0, 0, 0, []), (33, .iconst 0, 1, 0, 0, 0, 0, 0, 0, []), (34, .istore_n 3, 1, 0, 0, 0, 0, 0, 0, []), (35, .iload_n 3, 1, 0, 0, 0, 0, 0, 0, []), (36, .bipush 6, 2, 0, 0, 0, 0, 6, 0, []), (38, .if_icmp .ge 14, 3, 52, 0, 0, 0, 0, 0, []), (41, .aload_n 0, 1, 0, 0, 0, 0, 0, 0, []), (42, .iload_n 3, 1, 0, 0, 0, 0, 0, 0, []), (43, .invokevirtual 39, 3, 16, 2, 418, 0, 0, 0, []), (46, .iinc 3 1, 3, 0, 0, 0, 0, 1, 0, []), (49, .goto (-14), 3, 35, 0, 0, 0, 0, 0, []), (52, .return_, 1, 0, 0, 0, 0, 0, 0, [])]
def am_t15 : List aI := [(0, .iload_n 2, 1, 0, 0, 0, 0, 0, 0, []), (1, .iload_n 3, 1, 0, 0, 0, 0, 0, 0, []), (2, .iconst 0, 1, 0, 0, 0, 0, 0, 0, []), (3, .invokestatic 43, 3, 78, 1, 4, 1, 0, 0, []), (6, .istore 4, 2, 0, 0, 0, 0, 0, 0, []), (8, .iload_n 2, 1, 0, 0, 0, 0, 0, 0, []), (9, .iload_n 3, 1, 0, 0, 0, 0, 0, 0, []), (10, .iconst 1, 1, 0, 0, 0, 0, 1, 0, []), (11, .invokestatic 43, 3, 78, 1, 4, 1, 0, 0, []), (14, .istore 5, 2, 0, 0, 0, 0, 0, 0, []), (16, .aload_n 0, 1, 0, 0, 0, 0, 0, 0, []), (17, .getfield 15, 3, 2, 1, 192, 1, 0, 0, []), (20, .iload_n 3, 1, 0, 0, 0, 0, 0, 0, []), (21, .iconst 0, 1, 0, 0, 0, 0, 0, 0, []), (22, .iastore, 1, 0, 0, 0, 0, 0, 0, []), (23, .iconst 0, 1, 0, 0, 0, 0, 0, 0, []), (24, .istore 6, 2, 0, 0, 0, 0, 0, 0, []), (26, .iconst 0, 1, 0, 0, 0, 0, 0, 0, []), (27, .istore 7, 2, 0, 0, 0, 0, 0, 0, []), (29, .iload 7, 2, 0, 0, 0, 0, 0, 0, []), (31, .bipush 6, 2, 0, 0, 0, 0, 6, 0, []), (33, .if_icmp .ge 142, 3, 175, 0, 0, 0, 0, 0, []), (36, .aload_n 1, 1, 0, 0, 0, 0, 0, 0, []), (37, .iload_n 2, 1, 0, 0, 0, 0, 0, 0, []), (38, .iload_n 3, 1, 0, 0, 0, 0, 0, 0, []), (39, .iload 7, 2, 0, 0, 0, 0, 0, 0, []), (41, .invokevirtual 47, 3, 42, 3, 394, 1, 0, 0, []), (44, .ifCond .eq 6, 3, 50, 0, 0, 0, 0, 0, []), (47, .goto 122, 3, 169, 0, 0, 0, 0, 0, []), (50, .aload_n 1, 1, 0, 0, 0, 0, 0, 0, []), (51, .iload 4, 2, 0, 0, 0, 0, 0, 0, []), (53, .aload_n 1, 1, 0, 0, 0, 0, 0, 0, []), (54, .iload 4, 2, 0, 0, 0, 0, 0, 0, []), (56, .iload 7, 2, 0, 0, 0, 0, 0, 0, []), (58, .invokevirtual 50, 3, 35, 3, 402, 1, 0, 0, []), (61, .invokevirtual 54, 3, 41, 3, 403, 1, 0, 0, []), (64, .istore 8, 2, 0, 0, 0, 0, 0, 0, []), (66, .aload_n 1, 1, 0, 0, 0, 0, 0, 0, []), (67, .iload 5, 2, 0, 0, 0, 0, 0, 0, []), (69, .aload_n 1, 1, 0, 0, 0, 0, 0, 0, []), (70, .iload 5, 2, 0, 0, 0, 0, 0, 0, []), (72, .iload 7, 2, 0, 0, 0, 0, 0, 0, []), (74, .invokevirtual 50, 3, 35, 3, 402, 1, 0, 0, []), (77, .invokevirtual 54, 3, 41, 3, 403, 1, 0, 0, []), (80, .istore 9, 2, 0, 0, 0, 0, 0, 0, []), (82, .iload 9, 2, 0, 0, 0, 0, 0, 0, []), (84, .ldc 57, 2, 0, 0, 411, 0, 648000, 0, []), (86, .isub, 1, 0, 0, 0, 0, 0, 0, []), (87, .iload 8, 2, 0, 0, 0, 0, 0, 0, []), (89, .isub, 1, 0, 0, 0, 0, 0, 0, []), (90, .invokestatic 58, 3, 79, 1, 5, 1, 0, 0, []), (93, .istore 10, 2, 0, 0, 0, 0, 0, 0, []), (95, .iload 8, 2, 0, 0, 0, 0, 0, 0, []), (97, .iload 10, 2, 0, 0, 0, 0, 0, 0, []), (99, .iconst 2, 1, 0, 0, 0, 0, 2, 0, []), (100, .invokestatic 62, 3, 159, 0, 413, 1, 0, 0, []), (103, .iadd, 1, 0, 0, 0, 0, 0, 0, []), (104, .istore 11, 2, 0, 0, 0, 0, 0, 0, []), (106, .iload 7, 2, 0, 0, 0, 0, 0, 0, []), (108, .ifCond .ne 7, 3, 115, 0, 0, 0, 0, 0, []), (111, .iload 11, 2, 0, 0, 0, 0, 0, 0, []), (113, .istore 6, 2, 0, 0, 0, 0, 0, 0, []), (115, .aload_n 0, 1, 0, 0, 0, 0, 0, 0, []), (116, .getfield 15, 3, 2, 1, 192, 1, 0, 0, []), (119, .iload_n 3, 1, 0, 0, 0, 0, 0, 0, []), (120, .dup2, 1, 0, 0, 0, 0, 0, 0, []), (121, .iaload, 1, 0, 0, 0, 0, 0, 0, []), (122, .iconst 1, 1, 0, 0, 0, 0, 1, 0, []), (123, .iload 7, 2, 0, 0, 0, 0, 0, 0, []), (125, .ishl, 1, 0, 0, 0, 0, 0, 0, []), (126, .ior, 1, 0, 0, 0, 0, 0, 0, []), (127, .iastore, 1, 0, 0, 0, 0, 0, 0, []), (128, .aload_n 0, 1, 0, 0, 0, 0, 0, 0, []), (129, .getfield 22, 3, 2, 3, 196, 1, 0, 0, []), (132, .iload_n 3, 1, 0, 0, 0, 0, 0, 0, []), (133, .bipush 6, 2, 0, 0, 0, 0, 6, 0, []), (135, .imul, 1, 0, 0, 0, 0, 0, 0, []), (136, .iload 7, 2, 0, 0, 0, 0, 0, 0, []), (138, .iadd, 1, 0, 0, 0, 0, 0, 0, []), (139, .iload 10, 2, 0, 0, 0, 0, 0, 0, []), (141, .ineg, 1, 0, 0, 0, 0, 0, 0, []), (142, .iconst 2, 1, 0, 0, 0, 0, 2, 0, []), (143, .invokestatic 62, 3, 159, 0, 413, 1, 0, 0, []), (146, .iastore, 1, 0, 0, 0, 0, 0, 0, []), (147, .aload_n 0, 1, 0, 0, 0, 0, 0, 0, []), (148, .getfield 19, 3, 2, 2, 194, 1, 0, 0, []), (151, .iload_n 3, 1, 0, 0, 0, 0, 0, 0, []), (152, .bipush 6, 2, 0, 0, 0, 0, 6, 0, []), (154, .imul, 1, 0, 0, 0, 0, 0, 0, []), (155, .iload 7, 2, 0, 0, 0, 0, 0, 0, []), (157, .iadd, 1, 0, 0, 0, 0, 0, 0, []), (158, .iload 11, 2, 0, 0, 0, 0, 0, 0, []), (160, .iload 6, 2, 0, 0, 0, 0, 0, 0, []), (162, .isub, 1, 0, 0, 0, 0, 0, 0, []), (163, .ldc 67, 2, 0, 0, 414, 0, 1296000, 0, []), (165, .invokestatic 68, 3, 160, 0, 415, 1, 0, 0, []), (168, .iastore, 1, 0, 0, 0, 0, 0, 0, []), (169, .iinc 7 1, 3, 0, 0, 0, 0, 1, 0, []), (172, .goto (-143), 3, 29, 0, 0, 0, 0, 0, []), (175, .return_, 1, 0, 0, 0, 0, 0, 0, [])]
def am_t16 : List aI := [(0, .iconst 0, 1, 0, 0, 0, 0, 0, 0, []), (1, .istore_n 2, 1, 0, 0, 0, 0, 0, 0, []), (2, .iconst 0, 1, 0, 0, 0, 0, 0, 0, []), (3, .istore_n 3, 1, 0, 0, 0, 0, 0, 0, []), (4, .iconst 0, 1, 0, 0, 0, 0, 0, 0, []), (5, .istore 4, 2, 0, 0, 0, 0, 0, 0, []), (7, .iconst 0, 1, 0, 0, 0, 0, 0, 0, []), (8, .istore 5, 2, 0, 0, 0, 0, 0, 0, []), (10, .iload 5, 2, 0, 0, 0, 0, 0, 0, []), (12, .aload_n 0, 1, 0, 0, 0, 0, 0, 0, []), (13, .getfield 9, 3, 2, 0, 191, 0, 0, 0, []), (16, .if_icmp .ge 58, 3, 74, 0, 0, 0, 0, 0, []), (19, .aload_n 0, 1, 0, 0, 0, 0, 0, 0, []), (20, .iload 5, 2, 0, 0, 0, 0, 0, 0, []), (22, .iload_n 1, 1, 0, 0, 0, 0, 0, 0, []), (23, .invokevirtual 71, 3, 18, 2, 422, 1, 0, 0, []), (26, .ifCond .ne 6, 3, 32, 0, 0, 0, 0, 0, []), (29, .goto 39, 3, 68, 0, 0, 0, 0, 0, []), (32, .aload_n 0, 1, 0, 0, 0, 0, 0, 0, []), (33, .getfield 19, 3, 2, 2, 194, 1, 0, 0, []), (36, .iload 5, 2, 0, 0, 0, 0, 0, 0, []), (38, .bipush 6, 2, 0, 0, 0, 0, 6, 0, []), (40, .imul, 1, 0, 0, 0, 0, 0, 0, []), (41, .iload_n 1, 1, 0, 0, 0, 0, 0, 0, []), (42, .iadd, 1, 0, 0, 0, 0, 0, 0, []), (43, .iaload, 1, 0, 0, 0, 0, 0, 0, []), (44, .istore 6, 2, 0, 0, 0, 0, 0, 0, []), (46, .iload_n 2, 1, 0, 0, 0, 0, 0, 0, []), (47, .ifCond .ne 6, 3, 53, 0, 0, 0, 0, 0, []), (50, .iload 6, 2, 0, 0, 0, 0, 0, 0, []), (52, .istore_n 3, 1, 0, 0, 0, 0, 0, 0, []), (53, .iload 4, 2, 0, 0, 0, 0, 0, 0, []), (55, .iload 6, 2, 0, 0, 0, 0, 0, 0, []), (57, .iload_n 3, 1, 0, 0, 0, 0, 0, 0, []), (58, .isub, 1, 0, 0, 0, 0, 0, 0, []), (59, .invokestatic 58, 3, 79, 1, 5, 1, 0, 0, []), (62, .iadd, 1, 0, 0, 0, 0, 0, 0, []), (63, .istore 4, 2, 0, 0, 0, 0, 0, 0, []), (65, .iinc 2 1, 3, 0, 0, 0, 0, 1, 0, []), (68, .iinc 5 1, 3, 0, 0, 0, 0, 1, 0, []), (71, .goto (-61), 3, 10, 0, 0, 0, 0, 0, []), (74, .iload_n 2, 1, 0, 0, 0, 0, 0, 0, []), (75, .ifCond .ne 11, 3, 86, 0, 0, 0, 0, 0, []), (78, .aload_n 0, 1, 0, 0, 0, 0, 0, 0, []), (79, .getfield 28, 3, 2, 5, 200, 1, 0, 0, []), (82, .iload_n 1, 1, 0, 0, 0, 0, 0, 0, []), (83, .iconst (-1), 1, 0, 0, 0, 0, (-1), 0, []), (84, .iastore, 1, 0, 0, 0, 0, 0, 0, []), (85, .return_, 1, 0, 0, 0, 0, 0, 0, []), (86, .aload_n 0, 1, 0, 0, 0, 0, 0, 0, []), (87, .getfield 28, 3, 2, 5, 200, 1, 0, 0, []), (90, .iload_n 1, 1, 0, 0, 0, 0, 0, 0, []), (91, .iload_n 3, 1, 0, 0, 0, 0, 0, 0, []), (92, .iload 4, 2, 0, 0, 0, 0, 0, 0, []), (94, .iload_n 2, 1, 0, 0, 0, 0, 0, 0, []), (95, .invokestatic 62, 3, 159, 0, 413, 1, 0, 0, []), (98, .iadd, 1, 0, 0, 0, 0, 0, 0, []), (99, .ldc 67, 2, 0, 0, 414, 0, 1296000, 0, []), (101, .invokestatic 68, 3, 160, 0, 415, 1, 0, 0, []), (104, .iastore, 1, 0, 0, 0, 0, 0, 0, []), (105, .aload_n 0, 1, 0, 0, 0, 0, 0, 0, []), (106, .iload_n 1, 1, 0, 0, 0, 0, 0, 0, []), (107, .invokevirtual 75, 3, 17, 2, 426, 0, 0, 0, []), (110, .return_, 1, 0, 0, 0, 0, 0, 0, [])]
def am_t17 : List aI := [(0, .iconst 0, 1, 0, 0, 0, 0, 0, 0, []), (1, .istore_n 2, 1, 0, 0, 0, 0, 0, 0, []), (2, .iload_n 2, 1, 0, 0, 0, 0, 0, 0, []), (3, .aload_n 0, 1, 0, 0, 0, 0, 0, 0, []), (4, .getfield 9, 3, 2, 0, 191, 0, 0, 0, []), (7, .if_icmp .ge 47, 3, 54, 0, 0, 0, 0, 0, []), (10, .aload_n 0, 1, 0, 0, 0, 0, 0, 0, []), (11, .iload_n 2, 1, 0, 0, 0, 0, 0, 0, []), (12, .iload_n 1, 1, 0, 0, 0, 0, 0, 0, []), (13, .invokevirtual 71, 3, 18, 2, 422, 1, 0, 0, []), (16, .ifCond .eq 32, 3, 48, 0, 0, 0, 0, 0, []), (19, .iload_n 2, 1, 0, 0, 0, 0, 0, 0, []), (20, .bipush 6, 2, 0, 0, 0, 0, 6, 0, []), (22, .imul, 1, 0, 0, 0, 0, 0, 0, []), (23, .iload_n 1, 1, 0, 0, 0, 0, 0, 0, []), (24, .iadd, 1, 0, 0, 0, 0, 0, 0, []), (25, .istore_n 3, 1, 0, 0, 0, 0, 0, 0, []), (26, .aload_n 0, 1, 0, 0, 0, 0, 0, 0, []), (27, .getfield 25, 3, 2, 4, 198, 1, 0, 0, []), (30, .iload_n 3, 1, 0, 0, 0, 0, 0, 0, []), (31, .aload_n 0, 1, 0, 0, 0, 0, 0, 0, []), (32, .getfield 19, 3, 2, 2, 194, 1, 0, 0, []), (35, .iload_n 3, 1, 0, 0, 0, 0, 0, 0, []), (36, .iaload, 1, 0, 0, 0, 0, 0, 0, []), (37, .aload_n 0, 1, 0, 0, 0, 0, 0, 0, []), (38, .getfield 28, 3, 2, 5, 200, 1, 0, 0, []), (41, .iload_n 1, 1, 0, 0, 0, 0, 0, 0, []), (42, .iaload, 1, 0, 0, 0, 0, 0, 0, []), (43, .isub, 1, 0, 0, 0, 0, 0, 0, []), (44, .invokestatic 58, 3, 79, 1, 5, 1, 0, 0, []), (47, .iastore, 1, 0, 0, 0, 0, 0, 0, []), (48, .iinc 2 1, 3, 0, 0, 0, 0, 1, 0, []), (51, .goto (-49), 3, 2, 0, 0, 0, 0, 0, []), (54, .return_, 1, 0, 0, 0, 0, 0, 0, [])]
def am_t18 : List aI := [(0, .aload_n 0, 1, 0, 0, 0, 0, 0, 0, []), (1, .getfield 15, 3, 2, 1, 192, 1, 0, 0, []), (4, .iload_n 1, 1, 0, 0, 0, 0, 0, 0, []), (5, .iaload, 1, 0, 0, 0, 0, 0, 0, []), (6, .iconst 1, 1, 0, 0, 0, 0, 1, 0, []), (7, .iload_n 2, 1, 0, 0, 0, 0, 0, 0, []), (8, .ishl, 1, 0, 0, 0, 0, 0, 0, []), (9, .iand, 1, 0, 0, 0, 0, 0, 0, []), (10, .ifCond .eq 7, 3, 17, 0, 0, 0, 0, 0, []), (13, .iconst 1, 1, 0, 0, 0, 0, 1, 0, []), (14, .goto 4, 3, 18, 0, 0, 0, 0, 0, []), (17, .iconst 0, 1, 0, 0, 0, 0, 0, 0, []), (18, .ireturn, 1, 0, 0, 0, 1, 0, 0, [])]
def am_t19 : List aI := [(0, .aload_n 0, 1, 0, 0, 0, 0, 0, 0, []), (1, .getfield 28, 3, 2, 5, 200, 1, 0, 0, []), (4, .iload_n 1, 1, 0, 0, 0, 0, 0, 0, []), (5, .iaload, 1, 0, 0, 0, 0, 0, 0, []), (6, .iconst (-1), 1, 0, 0, 0, 0, (-1), 0, []), (7, .if_icmp .eq 7, 3, 14, 0, 0, 0, 0, 0, []), (10, .iconst 1, 1, 0, 0, 0, 0, 1, 0, []), (11, .goto 4, 3, 15, 0, 0, 0, 0, 0, []), (14, .iconst 0, 1, 0, 0, 0, 0, 0, 0, []), (15, .ireturn, 1, 0, 0, 0, 1, 0, 0, [])]
def am_t20 : List aI := [(0, .iconst 0, 1, 0, 0, 0, 0, 0, 0, []), (1, .istore_n 2, 1, 0, 0, 0, 0, 0, 0, []), (2, .iconst 0, 1, 0, 0, 0, 0, 0, 0, []), (3, .istore_n 3, 1, 0, 0, 0, 0, 0, 0, []), (4, .iload_n 3, 1, 0, 0, 0, 0, 0, 0, []), (5, .aload_n 0, 1, 0, 0, 0, 0, 0, 0, []), (6, .getfield 9, 3, 2, 0, 191, 0, 0, 0, []), (9, .if_icmp .ge 24, 3, 33, 0, 0, 0, 0, 0, []), (12, .aload_n 0, 1, 0, 0, 0, 0, 0, 0, []), (13, .iload_n 3, 1, 0, 0, 0, 0, 0, 0, []), (14, .iload_n 1, 1, 0, 0, 0, 0, 0, 0, []), (15, .invokevirtual 71, 3, 18, 2, 422, 1, 0, 0, []), (18, .ifCond .eq 9, 3, 27, 0, 0, 0, 0, 0, []), (21, .iload_n 2, 1, 0, 0, 0, 0, 0, 0, []), (22, .iconst 1, 1, 0, 0, 0, 0, 1, 0, []), (23, .iload_n 3, 1, 0, 0, 0, 0, 0, 0, []), (24, .ishl, 1, 0, 0, 0, 0, 0, 0, []), (25, .ior, 1, 0, 0, 0, 0, 0, 0, []), (26, .istore_n 2, 1, 0, 0, 0, 0, 0, 0, []), (27, .iinc 3 1, 3, 0, 0, 0, 0, 1, 0, []), (30, .goto (-26), 3, 4, 0, 0, 0, 0, 0, []), (33, .iload_n 2, 1, 0, 0, 0, 0, 0, 0, []), (34, .ireturn, 1, 0, 0, 0, 0, 0, 0, [])]
def am_t21 : List aI := [(0, .aload_n 0, 1, 0, 0, 0, 0, 0, 0, []), (1, .iload_n 1, 1, 0, 0, 0, 0, 0, 0, []), (2, .iload_n 2, 1, 0, 0, 0, 0, 0, 0, []), (3, .invokevirtual 71, 3, 18, 2, 422, 1, 0, 0, []), (6, .ifCond .eq 20, 3, 26, 0, 0, 0, 0, 0, []), (9, .aload_n 0, 1, 0, 0, 0, 0, 0, 0, []), (10, .getfield 25, 3, 2, 4, 198, 1, 0, 0, []), (13, .iload_n 1, 1, 0, 0, 0, 0, 0, 0, []), (14, .bipush 6, 2, 0, 0, 0, 0, 6, 0, []), (16, .imul, 1, 0, 0, 0, 0, 0, 0, []), (17, .iload_n 2, 1, 0, 0, 0, 0, 0, 0, []), (18, .iadd, 1, 0, 0, 0, 0, 0, 0, []), (19, .iaload, 1, 0, 0, 0, 0, 0, 0, []), (20, .invokestatic 78, 3, 0, 4, 438, 0, 0, 0, []), (23, .goto 4, 3, 27, 0, 0, 0, 0, 0, []), (26, .iconst 0, 1, 0, 0, 0, 0, 0, 0, []), (27, .ireturn, 1, 0, 0, 0, 0, 0, 0, [])]
def am_t22 : List aI := [(0, .iconst 0, 1, 0, 0, 0, 0, 0, 0, []), (1, .istore_n 2, 1, 0, 0, 0, 0, 0, 0, []), (2, .iconst 0, 1, 0, 0, 0, 0, 0, 0, []), (3, .istore_n 3, 1, 0, 0, 0, 0, 0, 0, []), (4, .iload_n 3, 1, 0, 0, 0, 0, 0, 0, []), (5, .aload_n 0, 1, 0, 0, 0, 0, 0, 0, []), (6, .getfield 9, 3, 2, 0, 191, 0, 0, 0, []), (9, .if_icmp .ge 20, 3, 29, 0, 0, 0, 0, 0, []), (12, .iload_n 2, 1, 0, 0, 0, 0, 0, 0, []), (13, .aload_n 0, 1, 0, 0, 0, 0, 0, 0, []), (14, .iload_n 3, 1, 0, 0, 0, 0, 0, 0, []), (15, .iload_n 1, 1, 0, 0, 0, 0, 0, 0, []), (16, .invokevirtual 81, 3, 21, 2, 434, 1, 0, 0, []), (19, .invokestatic 84, 3, 0, 3, 546, 0, 0, 0, []), (22, .istore_n 2, 1, 0, 0, 0, 0, 0, 0, []), (23, .iinc 3 1, 3, 0, 0, 0, 0, 1, 0, []), (26, .goto (-22), 3, 4, 0, 0, 0, 0, 0, []), (29, .iload_n 2, 1, 0, 0, 0, 0, 0, 0, []), (30, .ireturn, 1, 0, 0, 0, 0, 0, 0, [])]
def am_t23 : List aI := [(0, .iconst 0, 1, 0, 0, 0, 0, 0, 0, []), (1, .istore_n 3, 1, 0, 0, 0, 0, 0, 0, []), (2, .iconst 0, 1, 0, 0, 0, 0, 0, 0, []), (3, .istore 4, 2, 0, 0, 0, 0, 0, 0, []), (5, .iload 4, 2, 0, 0, 0, 0, 0, 0, []), (7, .bipush 6, 2, 0, 0, 0, 0, 6, 0, []), (9, .if_icmp .ge 27, 3, 36, 0, 0, 0, 0, 0, []), (12, .aload_n 0, 1, 0, 0, 0, 0, 0, 0, []), (13, .iload_n 1, 1, 0, 0, 0, 0, 0, 0, []), (14, .iload 4, 2, 0, 0, 0, 0, 0, 0, []), (16, .invokevirtual 81, 3, 21, 2, 434, 1, 0, 0, []), (19, .iload_n 2, 1, 0, 0, 0, 0, 0, 0, []), (20, .if_icmp .le 10, 3, 30, 0, 0, 0, 0, 0, []), (23, .iload_n 3, 1, 0, 0, 0, 0, 0, 0, []), (24, .iconst 1, 1, 0, 0, 0, 0, 1, 0, []), (25, .iload 4, 2, 0, 0, 0, 0, 0, 0, []), (27, .ishl, 1, 0, 0, 0, 0, 0, 0, []), (28, .ior, 1, 0, 0, 0, 0, 0, 0, []), (29, .istore_n 3, 1, 0, 0, 0, 0, 0, 0, []), (30, .iinc 4 1, 3, 0, 0, 0, 0, 1, 0, []), (33, .goto (-28), 3, 5, 0, 0, 0, 0, 0, []), (36, .iload_n 3, 1, 0, 0, 0, 0, 0, 0, []), (37, .ireturn, 1, 0, 0, 0, 0, 0, 0, [])]
def am_t24 : List aI := [(0, .iconst (-1), 1, 0, 0, 0, 0, (-1), 0, []), (1, .istore_n 2, 1, 0, 0, 0, 0, 0, 0, []), (2, .iload_n 1, 1, 0, 0, 0, 0, 0, 0, []), (3, .istore_n 3, 1, 0, 0, 0, 0, 0, 0, []), (4, .iconst 0, 1, 0, 0, 0, 0, 0, 0, []), (5, .istore 4, 2, 0, 0, 0, 0, 0, 0, []), (7, .iload 4, 2, 0, 0, 0, 0, 0, 0, []), (9, .aload_n 0, 1, 0, 0, 0, 0, 0, 0, []), (10, .getfield 9, 3, 2, 0, 191, 0, 0, 0, []), (13, .if_icmp .ge 53, 3, 66, 0, 0, 0, 0, 0, []), (16, .iconst 0, 1, 0, 0, 0, 0, 0, 0, []), (17, .istore 5, 2, 0, 0, 0, 0, 0, 0, []), (19, .iload 5, 2, 0, 0, 0, 0, 0, 0, []), (21, .bipush 6, 2, 0, 0, 0, 0, 6, 0, []), (23, .if_icmp .ge 37, 3, 60, 0, 0, 0, 0, 0, []), (26, .aload_n 0, 1, 0, 0, 0, 0, 0, 0, []), (27, .iload 4, 2, 0, 0, 0, 0, 0, 0, []), (29, .iload 5, 2, 0, 0, 0, 0, 0, 0, []), (31, .invokevirtual 81, 3, 21, 2, 434, 1, 0, 0, []), (34, .istore 6, 2, 0, 0, 0, 0, 0, 0, []), (36, .iload 6, 2, 0, 0, 0, 0, 0, 0, []), (38, .iload_n 3, 1, 0, 0, 0, 0, 0, 0, []), (39, .if_icmp .le 15, 3, 54, 0, 0, 0, 0, 0, []), (42, .iload 6, 2, 0, 0, 0, 0, 0, 0, []), (44, .istore_n 3, 1, 0, 0, 0, 0, 0, 0, []), (45, .iload 4, 2, 0, 0, 0, 0, 0, 0, []), (47, .bipush 6, 2, 0, 0, 0, 0, 6, 0, []), (49, .imul, 1, 0, 0, 0, 0, 0, 0, []), (50, .iload 5, 2, 0, 0, 0, 0, 0, 0, []), (52, .iadd, 1, 0, 0, 0, 0, 0, 0, []), (53, .istore_n 2, 1, 0, 0, 0, 0, 0, 0, []), (54, .iinc 5 1, 3, 0, 0, 0, 0, 1, 0, []), (57, .goto (-38), 3, 19, 0, 0, 0, 0, 0, []), (60, .iinc 4 1, 3, 0, 0, 0, 0, 1, 0, []), (63, .goto (-56), 3, 7, 0, 0, 0, 0, 0, []), (66, .iload_n 2, 1, 0, 0, 0, 0, 0, 0, []), (67, .ireturn, 1, 0, 0, 0, 0, 0, 0, [])]
def am_t25 : List aI := [(0, .aload_n 0, 1, 0, 0, 0, 0, 0, 0, []), (1, .getfield 15, 3, 2, 1, 192, 1, 0, 0, []), (4, .iload_n 1, 1, 0, 0, 0, 0, 0, 0, []), (5, .iaload, 1, 0, 0, 0, 0, 0, 0, []), (6, .invokestatic 87, 3, 158, 0, 499, 1, 0, 0, []), (9, .istore_n 2, 1, 0, 0, 0, 0, 0, 0, []), (10, .iload_n 2, 1, 0, 0, 0, 0, 0, 0, []), (11, .ifCond .ne 6, 3, 17, 0, 0, 0, 0, 0, []), (14, .ldc 92, 2, 0, 0, 505, 0, (-2000005), 0, []), (16, .ireturn, 1, 0, 0, 0, 0, 0, 0, []), (17, .iconst 0, 1, 0, 0, 0, 0, 0, 0, []), (18, .istore_n 3, 1, 0, 0, 0, 0, 0, 0, []), (19, .iconst 0, 1, 0, 0, 0, 0, 0, 0, []), (20, .istore 4, 2, 0, 0, 0, 0, 0, 0, []), (22, .iload 4, 2, 0, 0, 0, 0, 0, 0, []), (24, .bipush 6, 2, 0, 0, 0, 0, 6, 0, []), (26, .if_icmp .ge 34, 3, 60, 0, 0, 0, 0, 0, []), (29, .aload_n 0, 1, 0, 0, 0, 0, 0, 0, []), (30, .iload_n 1, 1, 0, 0, 0, 0, 0, 0, []), (31, .iload 4, 2, 0, 0, 0, 0, 0, 0, []), (33, .invokevirtual 71, 3, 18, 2, 422, 1, 0, 0, []), (36, .ifCond .eq 18, 3, 54, 0, 0, 0, 0, 0, []), (39, .iload_n 3, 1, 0, 0, 0, 0, 0, 0, []), (40, .aload_n 0, 1, 0, 0, 0, 0, 0, 0, []), (41, .getfield 22, 3, 2, 3, 196, 1, 0, 0, []), (44, .iload_n 1, 1, 0, 0, 0, 0, 0, 0, []), (45, .bipush 6, 2, 0, 0, 0, 0, 6, 0, []), (47, .imul, 1, 0, 0, 0, 0, 0, 0, []), (48, .iload 4, 2, 0, 0, 0, 0, 0, 0, []), (50, .iadd, 1, 0, 0, 0, 0, 0, 0, []), (51, .iaload, 1, 0, 0, 0, 0, 0, 0, []), (52, .iadd, 1, 0, 0, 0, 0, 0, 0, []), (53, .istore_n 3, 1, 0, 0, 0, 0, 0, 0, []), (54, .iinc 4 1, 3, 0, 0, 0, 0, 1, 0, []), (57, .goto (-35), 3, 22, 0, 0, 0, 0, 0, []), (60, .iload_n 3, 1, 0, 0, 0, 0, 0, 0, []), (61, .iload_n 2, 1, 0, 0, 0, 0, 0, 0, []), (62, .invokestatic 62, 3, 159, 0, 413, 1, 0, 0, []), (65, .ireturn, 1, 0, 0, 0, 0, 0, 0, [])]
def am_t26 : List aI := [(0, .aload_n 0, 1, 0, 0, 0, 0, 0, 0, []), (1, .getfield 28, 3, 2, 5, 200, 1, 0, 0, []), (4, .iload_n 2, 1, 0, 0, 0, 0, 0, 0, []), (5, .iaload, 1, 0, 0, 0, 0, 0, 0, []), (6, .aload_n 0, 1, 0, 0, 0, 0, 0, 0, []), (7, .getfield 28, 3, 2, 5, 200, 1, 0, 0, []), (10, .iload_n 1, 1, 0, 0, 0, 0, 0, 0, []), (11, .iaload, 1, 0, 0, 0, 0, 0, 0, []), (12, .isub, 1, 0, 0, 0, 0, 0, 0, []), (13, .ldc 67, 2, 0, 0, 414, 0, 1296000, 0, []), (15, .invokestatic 68, 3, 160, 0, 415, 1, 0, 0, []), (18, .ireturn, 1, 0, 0, 0, 0, 0, 0, [])]
def am_t27 : List aI := [(0, .iconst 0, 1, 0, 0, 0, 0, 0, 0, []), (1, .istore_n 2, 1, 0, 0, 0, 0, 0, 0, []), (2, .iconst 0, 1, 0, 0, 0, 0, 0, 0, []), (3, .istore_n 3, 1, 0, 0, 0, 0, 0, 0, []), (4, .iconst 0, 1, 0, 0, 0, 0, 0, 0, []), (5, .istore 4, 2, 0, 0, 0, 0, 0, 0, []), (7, .iload 4, 2, 0, 0, 0, 0, 0, 0, []), (9, .bipush 6, 2, 0, 0, 0, 0, 6, 0, []), (11, .if_icmp .ge 42, 3, 53, 0, 0, 0, 0, 0, []), (14, .iload_n 3, 1, 0, 0, 0, 0, 0, 0, []), (15, .iload_n 1, 1, 0, 0, 0, 0, 0, 0, []), (16, .if_icmp .eq 37, 3, 53, 0, 0, 0, 0, 0, []), (19, .aload_n 0, 1, 0, 0, 0, 0, 0, 0, []), (20, .iload_n 3, 1, 0, 0, 0, 0, 0, 0, []), (21, .invokevirtual 93, 3, 28, 2, 565, 1, 0, 0, []), (24, .istore 5, 2, 0, 0, 0, 0, 0, 0, []), (26, .iload 5, 2, 0, 0, 0, 0, 0, 0, []), (28, .iconst (-1), 1, 0, 0, 0, 0, (-1), 0, []), (29, .if_icmp .ne 5, 3, 34, 0, 0, 0, 0, 0, []), (32, .iload_n 2, 1, 0, 0, 0, 0, 0, 0, []), (33, .ireturn, 1, 0, 0, 0, 0, 0, 0, []), (34, .iload_n 2, 1, 0, 0, 0, 0, 0, 0, []), (35, .aload_n 0, 1, 0, 0, 0, 0, 0, 0, []), (36, .iload_n 3, 1, 0, 0, 0, 0, 0, 0, []), (37, .iload 5, 2, 0, 0, 0, 0, 0, 0, []), (39, .invokevirtual 96, 3, 26, 2, 574, 1, 0, 0, []), (42, .iadd, 1, 0, 0, 0, 0, 0, 0, []), (43, .istore_n 2, 1, 0, 0, 0, 0, 0, 0, []), (44, .iload 5, 2, 0, 0, 0, 0, 0, 0, []), (46, .istore_n 3, 1, 0, 0, 0, 0, 0, 0, []), (47, .iinc 4 1, 3, 0, 0, 0, 0, 1, 0, []), (50, .goto (-43), 3, 7, 0, 0, 0, 0, 0, []), (53, .iload_n 2, 1, 0, 0, 0, 0, 0, 0, []), (54, .ireturn, 1, 0, 0, 0, 0, 0, 0, [])]
def am_t28 : List aI := [(0, .iconst (-1), 1, 0, 0, 0, 0, (-1), 0, []), (1, .istore_n 2, 1, 0, 0, 0, 0, 0, 0, []), (2, .iconst 0, 1, 0, 0, 0, 0, 0, 0, []), (3, .istore_n 3, 1, 0, 0, 0, 0, 0, 0, []), (4, .iload_n 3, 1, 0, 0, 0, 0, 0, 0, []), (5, .bipush 6, 2, 0, 0, 0, 0, 6, 0, []), (7, .if_icmp .ge 60, 3, 67, 0, 0, 0, 0, 0, []), (10, .aload_n 0, 1, 0, 0, 0, 0, 0, 0, []), (11, .iload_n 3, 1, 0, 0, 0, 0, 0, 0, []), (12, .invokevirtual 99, 3, 19, 2, 569, 1, 0, 0, []), (15, .ifCond .eq 16, 3, 31, 0, 0, 0, 0, 0, []), (18, .aload_n 0, 1, 0, 0, 0, 0, 0, 0, []), (19, .iload_n 3, 1, 0, 0, 0, 0, 0, 0, []), (20, .iload_n 1, 1, 0, 0, 0, 0, 0, 0, []), (21, .invokevirtual 103, 3, 29, 2, 570, 1, 0, 0, []), (24, .ifCond .eq 7, 3, 31, 0, 0, 0, 0, 0, []), (27, .iconst 1, 1, 0, 0, 0, 0, 1, 0, []), (28, .goto 4, 3, 32, 0, 0, 0, 0, 0, []), (31, .iconst 0, 1, 0, 0, 0, 0, 0, 0, []), (32, .istore 4, 2, 0, 0, 0, 0, 0, 0, []), (34, .iload 4, 2, 0, 0, 0, 0, 0, 0, []), (36, .ifCond .eq 25, 3, 61, 0, 0, 0, 0, 0, []), (39, .iload_n 2, 1, 0, 0, 0, 0, 0, 0, []), (40, .iconst (-1), 1, 0, 0, 0, 0, (-1), 0, []), (41, .if_icmp .eq 18, 3, 59, 0, 0, 0, 0, 0, []), (44, .aload_n 0, 1, 0, 0, 0, 0, 0, 0, []), (45, .getfield 28, 3, 2, 5, 200, 1, 0, 0, []), (48, .iload_n 3, 1, 0, 0, 0, 0, 0, 0, []), (49, .iaload, 1, 0, 0, 0, 0, 0, 0, []), (50, .aload_n 0, 1, 0, 0, 0, 0, 0, 0, []), (51, .getfield 28, 3, 2, 5, 200, 1, 0, 0, []), (54, .iload_n 2, 1, 0, 0, 0, 0, 0, 0, []), (55, .iaload, 1, 0, 0, 0, 0, 0, 0, []), (56, .if_icmp .ge 5, 3, 61, 0, 0, 0, 0, 0, []), (59, .iload_n 3, 1, 0, 0, 0, 0, 0, 0, []), (60, .istore_n 2, 1, 0, 0, 0, 0, 0, 0, []), (61, .iinc 3 1, 3, 0, 0, 0, 0, 1, 0, []), (64, .goto (-60), 3, 4, 0, 0, 0, 0, 0, []), (67, .iload_n 2, 1, 0, 0, 0, 0, 0, 0, []), (68, .ireturn, 1, 0, 0, 0, 0, 0, 0, [])]
def am_t29 : List aI := [(0, .aload_n 0, 1, 0, 0, 0, 0, 0, 0, []), (1, .getfield 28, 3, 2, 5, 200, 1, 0, 0, []), (4, .iload_n 1, 1, 0, 0, 0, 0, 0, 0, []), (5, .iaload, 1, 0, 0, 0, 0, 0, 0, []), (6, .aload_n 0, 1, 0, 0, 0, 0, 0, 0, []), (7, .getfield 28, 3, 2, 5, 200, 1, 0, 0, []), (10, .iload_n 2, 1, 0, 0, 0, 0, 0, 0, []), (11, .iaload, 1, 0, 0, 0, 0, 0, 0, []), (12, .if_icmp .ne 14, 3, 26, 0, 0, 0, 0, 0, []), (15, .iload_n 1, 1, 0, 0, 0, 0, 0, 0, []), (16, .iload_n 2, 1, 0, 0, 0, 0, 0, 0, []), (17, .if_icmp .le 7, 3, 24, 0, 0, 0, 0, 0, []), (20, .iconst 1, 1, 0, 0, 0, 0, 1, 0, []), (21, .goto 4, 3, 25, 0, 0, 0, 0, 0, []), (24, .iconst 0, 1, 0, 0, 0, 0, 0, 0, []), (25, .ireturn, 1, 0, 0, 0, 1, 0, 0, []), (26, .aload_n 0, 1, 0, 0, 0, 0, 0, 0, []), (27, .getfield 28, 3, 2, 5, 200, 1, 0, 0, []), (30, .iload_n 1, 1, 0, 0, 0, 0, 0, 0, []), (31, .iaload, 1, 0, 0, 0, 0, 0, 0, []), (32, .aload_n 0, 1, 0, 0, 0, 0, 0, 0, []), (33, .getfield 28, 3, 2, 5, 200, 1, 0, 0, []), (36, .iload_n 2, 1, 0, 0, 0, 0, 0, 0, []), (37, .iaload, 1, 0, 0, 0, 0, 0, 0, []), (38, .if_icmp .le 7, 3, 45, 0, 0, 0, 0, 0, []), (41, .iconst 1, 1, 0, 0, 0, 0, 1, 0, []), (42, .goto 4, 3, 46, 0, 0, 0, 0, 0, []), (45, .iconst 0, 1, 0, 0, 0, 0, 0, 0, []), (46, .ireturn, 1, 0, 0, 0, 1, 0, 0, [])]
def am_t30 : List aI := [(0, .aload_n 0, 1, 0, 0, 0, 0, 0, 0, []), (1, .invokespecial 3, 3, 0, 2, 81, 0, 0, 0, []), (4, .aload_n 0, 1, 0, 0, 0, 0, 0, 0, []), (5, .iconst 0, 1, 0, 0, 0, 0, 0, 0, []), (6, .putfield 9, 3, 3, 0, 85, 0, 0, 0, []), (9, .aload_n 0, 1, 0, 0, 0, 0, 0, 0, []), (10, .bipush 20, 2, 0, 0, 0, 0, 20, 0, []), (12, .putfield 15, 3, 3, 1, 87, 0, 0, 0, []), (15, .aload_n 0, 1, 0, 0, 0, 0, 0, 0, []), (16, .iconst 4, 1, 0, 0, 0, 0, 4, 0, []), (17, .newarray .int, 2, 4, 1, 131, 0, 4, 0, []), (19, .putfield 18, 3, 3, 2, 89, 1, 0, 0, []), (22, .aload_n 0, 1, 0, 0, 0, 0, 0, 0, []), (23, .iconst 4, 1, 0, 0, 0, 0, 4, 0, []), (24, .newarray .int, 2, 4, 1, 131, 0, 4, 0, []), (26, .putfield 22, 3, 3, 3, 92, 1, 0, 0, []), (29, .aload_n 0, 1, 0, 0, 0, 0, 0, 0, []), (30, .iconst 4, 1, 0, 0, 0, 0, 4, 0, []), (31, .newarray .int, 2, 4, 1, 131, 0, 4, 0, []), (33, .putfield 25, 3, 3, 4, 94, 1, 0, 0, []), (36, .aload_n 0, 1, 0, 0, 0, 0, 0, 0, []), (37, .bipush 6, 2, 0, 0, 0, 0, 6, 0, []), (39, .newarray .int, 2, 6, 1, 131, 0, 6, 0, []), (41, .putfield 28, 3, 3, 5, 96, 1, 0, 0, []), (44, .aload_n 0, 1, 0, 0, 0, 0, 0, 0, []), (45, .bipush 48, 2, 0, 0, 0, 0, 48, 0, []), (47, .newarray .int, 2, 48, 1, 131, 0, 48, 0, []), (49, .putfield 31, 3, 3, 6, 98, 1, 0, 0, []), (52, .aload_n 0, 1, 0, 0, 0, 0, 0, 0, []), (53, .bipush 48, 2, 0, 0, 0, 0, 48, 0, []), (55, .newarray .int, 2, 48, 1, 131, 0, 48, 0, []), (57, .putfield 34, 3, 3, 7, 100, 1, 0, 0, []), (60, .aload_n 0, 1, 0, 0, 0, 0, 0, 0, []), (61, .sipush 288, 3, 0, 0, 0, 0, 288, 0, []), (64, .newarray .int, 2, 288, 1, 131, 0, 288, 0, []), (66, .putfield 37, 3, 3, 8, 102, 1, 0, 0, []), (69, .aload_n 0, 1, 0, 0, 0, 0, 0, 0, []), (70, .sipush 288, 3, 0, 0, 0, 0, 288, 0, []), (73, .newarray .int, 2, 288, 1, 131, 0, 288, 0, []), (75, .putfield 40, 3, 3, 9, 104, 1, 0, 0, []), (78, .aload_n 0, 1, 0, 0, 0, 0, 0, 0, []), (79, .sipush 288, 3, 0, 0, 0, 0, 288, 0, []), (82, .newarray .boolean, 2, 288, 2, 132, 0, 288, 0, []), (84, .putfield 43, 3, 3, 10, 106, 1, 0, 0, []), (87, .aload_n 0, 1, 0, 0, 0, 0, 0, 0, []), (88, .getfield 28, 3, 3, 5, 96, 1, 0, 0, []), (91, .bipush 100, 2, 0, 0, 0, 0, 100, 0, []), (93, .invokestatic 47, 3, 163, 0, 82, 0, 0, 0, []), (96, .aload_n 0, 1, 0, 0, 0, 0, 0, 0, []), (97, .getfield 34, 3, 3, 7, 100, 1, 0, 0, []), (100, .iconst (-1), 1, 0, 0, 0, 0, (-1), 0, []), (101, .invokestatic 47, 3, 163, 0, 82, 0, 0, 0, []), (104, .return_, 1, 0, 0, 0, 0, 0, 0, [])]
def am_t31 : List aI := [(0, .aload_n 0, 1, 0, 0, 0, 0, 0, 0, []), (1, .aload_n 1, 1, 0, 0, 0, 0, 0, 0, []), (2, .getfield 9, 3, 3, 0, 85, 0, 0, 0, []), (5, .putfield 9, 3, 3, 0, 85, 0, 0, 0, []), (8, .aload_n 0, 1, 0, 0, 0, 0, 0, 0, []), (9, .aload_n 1, 1, 0, 0, 0, 0, 0, 0, []), (10, .getfield 15, 3, 3, 1, 87, 0, 0, 0, []), (13, .putfield 15, 3, 3, 1, 87, 0, 0, 0, []), (16, .aload_n 1, 1, 0, 0, 0, 0, 0, 0, []), (17, .getfield 18, 3, 3, 2, 89, 1, 0, 0, []), (20, .iconst 0, 1, 0, 0, 0, 0, 0, 0, []), (21, .aload_n 0, 1, 0, 0, 0, 0, 0, 0, []), (22, .getfield 18, 3, 3, 2, 89, 1, 0, 0, []), (25, .iconst 0, 1, 0, 0, 0, 0, 0, 0, []), (26, .iconst 4, 1, 0, 0, 0, 0, 4, 0, []), (27, .invokestatic 53, 3, 0, 2, 251, 0, 0, 0, []), (30, .aload_n 1, 1, 0, 0, 0, 0, 0, 0, []), (31, .getfield 22, 3, 3, 3, 92, 1, 0, 0, []), (34, .iconst 0, 1, 0, 0, 0, 0, 0, 0, []), (35, .aload_n 0, 1, 0, 0, 0, 0, 0, 0, []), (36, .getfield 22, 3, 3, 3, 92, 1, 0, 0, []), (39, .iconst 0, 1, 0, 0, 0, 0, 0, 0, []), (40, .iconst 4, 1, 0, 0, 0, 0, 4, 0, []), (41, .invokestatic 53, 3, 0, 2, 251, 0, 0, 0, []), (44, .aload_n 1, 1, 0, 0, 0, 0, 0, 0, []), (45, .getfield 25, 3, 3, 4, 94, 1, 0, 0, []), (48, .iconst 0, 1, 0, 0, 0, 0, 0, 0, []), (49, .aload_n 0, 1, 0, 0, 0, 0, 0, 0, []), (50, .getfield 25, 3, 3, 4, 94, 1, 0, 0, []), (53, .iconst 0, 1, 0, 0, 0, 0, 0, 0, []), (54, .iconst 4, 1, 0, 0, 0, 0, 4, 0, []), (55, .invokestatic 53, 3, 0, 2, 251, 0, 0, 0, []), (58, .aload_n 1, 1, 0, 0, 0, 0, 0, 0, []), (59, .getfield 28, 3, 3, 5, 96, 1, 0, 0, []), (62, .iconst 0, 1, 0, 0, 0, 0, 0, 0, []), (63, .aload_n 0, 1, 0, 0, 0, 0, 0, 0, []), (64, .getfield 28, 3, 3, 5, 96, 1, 0, 0, []), (67, .iconst 0, 1, 0, 0, 0, 0, 0, 0, []), (68, .bipush 6, 2, 0, 0, 0, 0, 6, 0, []), (70, .invokestatic 53, 3, 0, 2, 251, 0, 0, 0, []), (73, .aload_n 1, 1, 0, 0, 0, 0, 0, 0, []), (74, .getfield 31, 3, 3, 6, 98, 1, 0, 0, []), (77, .iconst 0, 1, 0, 0, 0, 0, 0, 0, []), (78, .aload_n 0, 1, 0, 0, 0, 0, 0, 0, []), (79, .getfield 31, 3, 3, 6, 98, 1, 0, 0, []), (82, .iconst 0, 1, 0, 0, 0, 0, 0, 0, []), (83, .bipush 48, 2, 0, 0, 0, 0, 48, 0, []), (85, .invokestatic 53, 3, 0, 2, 251, 0, 0, 0, []), (88, .aload_n 1, 1, 0, 0, 0, 0, 0, 0, []), (89, .getfield 34, 3, 3, 7, 100, 1, 0, 0, []), (92, .iconst 0, 1, 0, 0, 0, 0, 0, 0, []), (93, .aload_n 0, 1, 0, 0, 0, 0, 0, 0, []), (94, .getfield 34, 3, 3, 7, 100, 1, 0, 0, []), (97, .iconst 0, 1, 0, 0, 0, 0, 0, 0, []), (98, .bipush 48, 2, 0, 0, 0, 0, 48, 0, []), (100, .invokestatic 53, 3, 0, 2, 251, 0, 0, 0, []), (103, .aload_n 1, 1, 0, 0, 0, 0, 0, 0, []), (104, .getfield 37, 3, 3, 8, 102, 1, 0, 0, []), (107, .iconst 0, 1, 0, 0, 0, 0, 0, 0, []), (108, .aload_n 0, 1, 0, 0, 0, 0, 0, 0, []), (109, .getfield 37, 3, 3, 8, 102, 1, 0, 0, []), (112, .iconst 0, 1, 0, 0, 0, 0, 0, 0, []), (113, .sipush 288, 3, 0, 0, 0, 0, 288, 0, []), (116, .invokestatic 53, 3, 0, 2, 251, 0, 0, 0, []), (119, .aload_n 1, 1, 0, 0, 0, 0, 0, 0, []), (120, .getfield 40, 3, 3, 9, 104, 1, 0, 0, []), (123, .iconst 0, 1, 0, 0, 0, 0, 0, 0, []), (124, .aload_n 0, 1, 0, 0, 0, 0, 0, 0, []), (125, .getfield 40, 3, 3, 9, 104, 1, 0, 0, []), (128, .iconst 0, 1, 0, 0, 0, 0, 0, 0, []), (129, .sipush 288, 3, 0, 0, 0, 0, 288, 0, []), (132, .invokestatic 53, 3, 0, 2, 251, 0, 0, 0, []), (135, .aload_n 1, 1, 0, 0, 0, 0, 0, 0, []), (136, .getfield 43, 3, 3, 10, 106, 1, 0, 0, []), (139, .iconst 0, 1, 0, 0, 0, 0, 0, 0, []), (140, .aload_n 0, 1, 0, 0, 0, 0, 0, 0, []), (141, .getfield 43, 3, 3, 10, 106, 1, 0, 0, []), (144, .iconst 0, 1, 0, 0, 0, 0, 0, 0, []), (145, .sipush 288, 3, 0, 0, 0, 0, 288, 0, []), (148, .invokestatic 53, 3, 0, 2, 251, 0, 0, 0, []), (151, .return_, 1, 0, 0, 0, 0, 0, 0, [])]
def am_t32 : List aI := [(0, .iload_n 1, 1, 0, 0, 0, 0, 0, 0, []), (1, .ifCond .lt 15, 3, 16, 0, 0, 0, 0, 0, []), (4, .iload_n 1, 1, 0, 0, 0, 0, 0, 0, []), (5, .aload_n 0, 1, 0, 0, 0, 0, 0, 0, []), (6, .getfield 9, 3, 3, 0, 85, 0, 0, 0, []), (9, .if_icmp .ge 7, 3, 16, 0, 0, 0, 0, 0, []), (12, .iconst 1, 1, 0, 0, 0, 0, 1, 0, []), (13, .goto 4, 3, 17, 0, 0, 0, 0, 0, []), (16, .iconst 0, 1, 0, 0, 0, 0, 0, 0, []), (17, .ireturn, 1, 0, 0, 0, 1, 0, 0, [])]
def am_t33 : List aI := [(0, .aload_n 0, 1, 0, 0, 0, 0, 0, 0, []), (1, .iload_n 1, 1, 0, 0, 0, 0, 0, 0, []), (2, .invokevirtual 59, 3, 32, 3, 271, 1, 0, 0, []), (5, .ifCond .eq 21, 3, 26, 0, 0, 0, 0, 0, []), (8, .iload_n 2, 1, 0, 0, 0, 0, 0, 0, []), (9, .ifCond .lt 17, 3, 26, 0, 0, 0, 0, 0, []), (12, .iload_n 2, 1, 0, 0, 0, 0, 0, 0, []), (13, .aload_n 0, 1, 0, 0, 0, 0, 0, 0, []), (14, .getfield 18, 3, 3, 2, 89, 1, 0, 0, []), (17, .iload_n 1, 1, 0, 0, 0, 0, 0, 0, []), (18, .iaload, 1, 0, 0, 0, 0, 0, 0, []), (19, .if_icmp .ge 7, 3, 26, 0, 0, 0, 0, 0, []), (22, .iconst 1, 1, 0, 0, 0, 0, 1, 0, []), (23, .goto 4, 3, 27, 0, 0, 0, 0, 0, []), (26, .iconst 0, 1, 0, 0, 0, 0, 0, 0, []), (27, .ireturn, 1, 0, 0, 0, 1, 0, 0, [])]
def am_t34 : List aI := [(0, .aload_n 0, 1, 0, 0, 0, 0, 0, 0, []), (1, .getfield 34, 3, 3, 7, 100, 1, 0, 0, []), (4, .iload_n 1, 1, 0, 0, 0, 0, 0, 0, []), (5, .iaload, 1, 0, 0, 0, 0, 0, 0, []), (6, .iconst (-1), 1, 0, 0, 0, 0, (-1), 0, []), (7, .if_icmp .eq 7, 3, 14, 0, 0, 0, 0, 0, []), (10, .iconst 1, 1, 0, 0, 0, 0, 1, 0, []), (11, .goto 4, 3, 15, 0, 0, 0, 0, 0, []), (14, .iconst 0, 1, 0, 0, 0, 0, 0, 0, []), (15, .ireturn, 1, 0, 0, 0, 1, 0, 0, [])]
def am_t35 : List aI := [(0, .iconst 0, 1, 0, 0, 0, 0, 0, 0, []), (1, .istore_n 3, 1, 0, 0, 0, 0, 0, 0, []), (2, .iload_n 3, 1, 0, 0, 0, 0, 0, 0, []), (3, .aload_n 0, 1, 0, 0, 0, 0, 0, 0, []), (4, .getfield 31, 3, 3, 6, 98, 1, 0, 0, []), (7, .iload_n 1, 1, 0, 0, 0, 0, 0, 0, []), (8, .iaload, 1, 0, 0, 0, 0, 0, 0, []), (9, .if_icmp .ge 26, 3, 35, 0, 0, 0, 0, 0, []), (12, .aload_n 0, 1, 0, 0, 0, 0, 0, 0, []), (13, .getfield 37, 3, 3, 8, 102, 1, 0, 0, []), (16, .iload_n 1, 1, 0, 0, 0, 0, 0, 0, []), (17, .bipush 6, 2, 0, 0, 0, 0, 6, 0, []), (19, .imul, 1, 0, 0, 0, 0, 0, 0, []), (20, .iload_n 3, 1, 0, 0, 0, 0, 0, 0, []), (21, .iadd, 1, 0, 0, 0, 0, 0, 0, []), (22, .iaload, 1, 0, 0, 0, 0, 0, 0, []), (23, .iload_n 2, 1, 0, 0, 0, 0, 0, 0, []), (24, .if_icmp .ne 5, 3, 29, 0, 0, 0, 0, 0, []), (27, .iload_n 3, 1, 0, 0, 0, 0, 0, 0, []), (28, .ireturn, 1, 0, 0, 0, 0, 0, 0, []), (29, .iinc 3 1, 3, 0, 0, 0, 0, 1, 0, []), (32, .goto (-30), 3, 2, 0, 0, 0, 0, 0, []), (35, .iconst (-1), 1, 0, 0, 0, 0, (-1), 0, []), (36, .ireturn, 1, 0, 0, 0, 0, 0, 0, [])]
def am_t36 : List aI := [(0, .aload_n 0, 1, 0, 0, 0, 0, 0, 0, []), (1, .iload_n 1, 1, 0, 0, 0, 0, 0, 0, []), (2, .invokevirtual 63, 3, 34, 3, 290, 1, 0, 0, []), (5, .ifCond .ne 17, 3, 22, 0, 0, 0, 0, 0, []), (8, .aload_n 0, 1, 0, 0, 0, 0, 0, 0, []), (9, .iload_n 1, 1, 0, 0, 0, 0, 0, 0, []), (10, .iload_n 2, 1, 0, 0, 0, 0, 0, 0, []), (11, .invokevirtual 66, 3, 35, 3, 294, 1, 0, 0, []), (14, .iconst (-1), 1, 0, 0, 0, 0, (-1), 0, []), (15, .if_icmp .ne 7, 3, 22, 0, 0, 0, 0, 0, []), (18, .iconst 1, 1, 0, 0, 0, 0, 1, 0, []), (19, .goto 4, 3, 23, 0, 0, 0, 0, 0, []), (22, .iconst 0, 1, 0, 0, 0, 0, 0, 0, []), (23, .ireturn, 1, 0, 0, 0, 1, 0, 0, [])]
def am_t37 : List aI := [(0, .aload_n 0, 1, 0, 0, 0, 0, 0, 0, []), (1, .getfield 31, 3, 3, 6, 98, 1, 0, 0, []), (4, .iload_n 1, 1, 0, 0, 0, 0, 0, 0, []), (5, .iaload, 1, 0, 0, 0, 0, 0, 0, []), (6, .bipush 6, 2, 0, 0, 0, 0, 6, 0, []), (8, .if_icmp .lt 4, 3, 12, 0, 0, 0, 0, 0, []), (11, .return_, 1, 0, 0, 0, 0, 0, 0, []), (12, .iload_n 1, 1, 0, 0, 0, 0, 0, 0, []), (13, .bipush 6, 2, 0, 0, 0, 0, 6, 0, []), (15, .imul, 1, 0, 0, 0, 0, 0, 0, []), (16, .aload_n 0, 1, 0, 0, 0, 0, 0, 0, []), (17, .getfield 31, 3, 3, 6, 98, 1, 0, 0, []), (20, .iload_n 1, 1, 0, 0, 0, 0, 0, 0, []), (21, .iaload, 1, 0, 0, 0, 0, 0, 0, []), (22, .iadd, 1, 0, 0, 0, 0, 0, 0, []), (23, .istore 4, 2, 0, 0, 0, 0, 0, 0, []), (25, .aload_n 0, 1, 0, 0, 0, 0, 0, 0, []), (26, .getfield 37, 3, 3, 8, 102, 1, 0, 0, []), (29, .iload 4, 2, 0, 0, 0, 0, 0, 0, []), (31, .iload_n 2, 1, 0, 0, 0, 0, 0, 0, []), (32, .iastore, 1, 0, 0, 0, 0, 0, 0, []), (33, .aload_n 0, 1, 0, 0, 0, 0, 0, 0, []), (34, .getfield 40, 3, 3, 9, 104, 1, 0, 0, []), (37, .iload 4, 2, 0, 0, 0, 0, 0, 0, []), (39, .iload_n 3, 1, 0, 0, 0, 0, 0, 0, []), (40, .iastore, 1, 0, 0, 0, 0, 0, 0, []), (41, .aload_n 0, 1, 0, 0, 0, 0, 0, 0, []), (42, .getfield 43, 3, 3, 10, 106, 1, 0, 0, []), (45, .iload 4, 2, 0, 0, 0, 0, 0, 0, []), (47, .iconst 0, 1, 0, 0, 0, 0, 0, 0, []), (48, .bastore, 1, 0, 0, 0, 0, 0, 0, []), (49, .aload_n 0, 1, 0, 0, 0, 0, 0, 0, []), (50, .getfield 31, 3, 3, 6, 98, 1, 0, 0, []), (53, .iload_n 1, 1, 0, 0, 0, 0, 0, 0, []), (54, .dup2, 1, 0, 0, 0, 0, 0, 0, []), (55, .iaload, 1, 0, 0, 0, 0, 0, 0, []), (56, .iconst 1, 1, 0, 0, 0, 0, 1, 0, []), (57, .iadd, 1, 0, 0, 0, 0, 0, 0, []), (58, .iastore, 1, 0, 0, 0, 0, 0, 0, []), (59, .return_, 1, 0, 0, 0, 0, 0, 0, [])]
def am_t38 : List aI := [(0, .aload_n 0, 1, 0, 0, 0, 0, 0, 0, []), (1, .iload_n 1, 1, 0, 0, 0, 0, 0, 0, []), (2, .iload_n 2, 1, 0, 0, 0, 0, 0, 0, []), (3, .invokevirtual 66, 3, 35, 3, 294, 1, 0, 0, []), (6, .istore_n 3, 1, 0, 0, 0, 0, 0, 0, []), (7, .iload_n 3, 1, 0, 0, 0, 0, 0, 0, []), (8, .iconst (-1), 1, 0, 0, 0, 0, (-1), 0, []), (9, .if_icmp .ne 4, 3, 13, 0, 0, 0, 0, 0, []), (12, .return_, 1, 0, 0, 0, 0, 0, 0, []), (13, .aload_n 0, 1, 0, 0, 0, 0, 0, 0, []), (14, .getfield 31, 3, 3, 6, 98, 1, 0, 0, []), (17, .iload_n 1, 1, 0, 0, 0, 0, 0, 0, []), (18, .dup2, 1, 0, 0, 0, 0, 0, 0, []), (19, .iaload, 1, 0, 0, 0, 0, 0, 0, []), (20, .iconst 1, 1, 0, 0, 0, 0, 1, 0, []), (21, .isub, 1, 0, 0, 0, 0, 0, 0, []), (22, .iastore, 1, 0, 0, 0, 0, 0, 0, []), (23, .iload_n 1, 1, 0, 0, 0, 0, 0, 0, []), (24, .bipush 6, 2, 0, 0, 0, 0, 6, 0, []), (26, .imul, 1, 0, 0, 0, 0, 0, 0, []), (27, .iload_n 3, 1, 0, 0, 0, 0, 0, 0, []), (28, .iadd, 1, 0, 0, 0, 0, 0, 0, []), (29, .istore 4, 2, 0, 0, 0, 0, 0, 0, []), (31, .iload 4, 2, 0, 0, 0, 0, 0, 0, []), (33, .iload_n 1, 1, 0, 0, 0, 0, 0, 0, []), (34, .bipush 6, 2, 0, 0, 0, 0, 6, 0, []), (36, .imul, 1, 0, 0, 0, 0, 0, 0, []), (37, .aload_n 0, 1, 0, 0, 0, 0, 0, 0, []), (38, .getfield 31, 3, 3, 6, 98, 1, 0, 0, []), (41, .iload_n 1, 1, 0, 0, 0, 0, 0, 0, []), (42, .iaload, 1, 0, 0, 0, 0, 0, 0, []), (43, .iadd, 1, 0, 0, 0, 0, 0, 0, []), (44, .if_icmp .ge 57, 3, 101, 0, 0, 0, 0, 0, []), (47, .aload_n 0, 1, 0, 0, 0, 0, 0, 0, []), (48, .getfield 37, 3, 3, 8, 102, 1, 0, 0, []), (51, .iload 4, 2, 0, 0, 0, 0, 0, 0, []), (53, .aload_n 0, 1, 0, 0, 0, 0, 0, 0, []), (54, .getfield 37, 3, 3, 8, 102, 1, 0, 0, []), (57, .iload 4, 2, 0, 0, 0, 0, 0, 0, []), (59, .iconst 1, 1, 0, 0, 0, 0, 1, 0, []), (60, .iadd, 1, 0, 0, 0, 0, 0, 0, []), (61, .iaload, 1, 0, 0, 0, 0, 0, 0, []), (62, .iastore, 1, 0, 0, 0, 0, 0, 0, []), (63, .aload_n 0, 1, 0, 0, 0, 0, 0, 0, []), (64, .getfield 40, 3, 3, 9, 104, 1, 0, 0, []), (67, .iload 4, 2, 0, 0, 0, 0, 0, 0, []), (69, .aload_n 0, 1, 0, 0, 0, 0, 0, 0, []), (70, .getfield 40, 3, 3, 9, 104, 1, 0, 0, []), (73, .iload 4, 2, 0, 0, 0, 0, 0, 0, []), (75, .iconst 1, 1, 0, 0, 0, 0, 1, 0, []), (76, .iadd, 1, 0, 0, 0, 0, 0, 0, []), (77, .iaload, 1, 0, 0, 0, 0, 0, 0, []), (78, .iastore, 1, 0, 0, 0, 0, 0, 0, []), (79, .aload_n 0, 1, 0, 0, 0, 0, 0, 0, []), (80, .getfield 43, 3, 3, 10, 106, 1, 0, 0, []), (83, .iload 4, 2, 0, 0, 0, 0, 0, 0, []), (85, .aload_n 0, 1, 0, 0, 0, 0, 0, 0, []), (86, .getfield 43, 3, 3, 10, 106, 1, 0, 0, []), (89, .iload 4, 2, 0, 0, 0, 0, 0, 0, []), (91, .iconst 1, 1, 0, 0, 0, 0, 1, 0, []), (92, .iadd, 1, 0, 0, 0, 0, 0, 0, []), (93, .baload, 1, 0, 0, 0, 0, 0, 0, []), (94, .bastore, 1, 0, 0, 0, 0, 0, 0, []), (95, .iinc 4 1, 3, 0, 0, 0, 0, 1, 0, []), (98, .goto (-67), 3, 31, 0, 0, 0, 0, 0, []), (101, .return_, 1, 0, 0, 0, 0, 0, 0, [])]
def am_t39 : List aI := [(0, .iconst 0, 1, 0, 0, 0, 0, 0, 0, []), (1, .istore 4, 2, 0, 0, 0, 0, 0, 0, []), (3, .iload 4, 2, 0, 0, 0, 0, 0, 0, []), (5, .iconst 2, 1, 0, 0, 0, 0, 2, 0, []), (6, .if_icmp .ge 47, 3, 53, 0, 0, 0, 0, 0, []), (9, .iload_n 1, 1, 0, 0, 0, 0, 0, 0, []), (10, .iload_n 2, 1, 0, 0, 0, 0, 0, 0, []), (11, .iload 4, 2, 0, 0, 0, 0, 0, 0, []), (13, .invokestatic 70, 3, 78, 1, 3, 1, 0, 0, []), (16, .istore 5, 2, 0, 0, 0, 0, 0, 0, []), (18, .aload_n 0, 1, 0, 0, 0, 0, 0, 0, []), (19, .iload 5, 2, 0, 0, 0, 0, 0, 0, []), (21, .iload_n 3, 1, 0, 0, 0, 0, 0, 0, []), (22, .invokevirtual 66, 3, 35, 3, 294, 1, 0, 0, []), (25, .istore 6, 2, 0, 0, 0, 0, 0, 0, []), (27, .iload 6, 2, 0, 0, 0, 0, 0, 0, []), (29, .iconst (-1), 1, 0, 0, 0, 0, (-1), 0, []), (30, .if_icmp .eq 17, 3, 47, 0, 0, 0, 0, 0, []), (33, .aload_n 0, 1, 0, 0, 0, 0, 0, 0, []), (34, .getfield 43, 3, 3, 10, 106, 1, 0, 0, []), (37, .iload 5, 2, 0, 0, 0, 0, 0, 0, []), (39, .bipush 6, 2, 0, 0, 0, 0, 6, 0, []), (41, .imul, 1, 0, 0, 0, 0, 0, 0, []), (42, .iload 6, 2, 0, 0, 0, 0, 0, 0, []), (44, .iadd, 1, 0, 0, 0, 0, 0, 0, []), (45, .iconst 1, 1, 0, 0, 0, 0, 1, 0, []), (46, .bastore, 1, 0, 0, 0, 0, 0, 0, []), (47, .iinc 4 1, 3, 0, 0, 0, 0, 1, 0, []), (50, .goto (-47), 3, 3, 0, 0, 0, 0, 0, []), (53, .return_, 1, 0, 0, 0, 0, 0, 0, [])]
def am_t40 : List aI := [(0, .aload_n 0, 1, 0, 0, 0, 0, 0, 0, []), (1, .getfield 34, 3, 3, 7, 100, 1, 0, 0, []), (4, .iload_n 1, 1, 0, 0, 0, 0, 0, 0, []), (5, .iaload, 1, 0, 0, 0, 0, 0, 0, []), (6, .aload_n 0, 1, 0, 0, 0, 0, 0, 0, []), (7, .getfield 40, 3, 3, 9, 104, 1, 0, 0, []), (10, .iload_n 1, 1, 0, 0, 0, 0, 0, 0, []), (11, .bipush 6, 2, 0, 0, 0, 0, 6, 0, []), (13, .imul, 1, 0, 0, 0, 0, 0, 0, []), (14, .iaload, 1, 0, 0, 0, 0, 0, 0, []), (15, .isub, 1, 0, 0, 0, 0, 0, 0, []), (16, .invokestatic 74, 3, 79, 1, 2, 1, 0, 0, []), (19, .ireturn, 1, 0, 0, 0, 0, 0, 0, [])]
def am_t41 : List aI := [(0, .iload_n 2, 1, 0, 0, 0, 0, 0, 0, []), (1, .ifCond .lt 13, 3, 14, 0, 0, 0, 0, 0, []), (4, .iload_n 2, 1, 0, 0, 0, 0, 0, 0, []), (5, .aload_n 0, 1, 0, 0, 0, 0, 0, 0, []), (6, .getfield 31, 3, 3, 6, 98, 1, 0, 0, []), (9, .iload_n 1, 1, 0, 0, 0, 0, 0, 0, []), (10, .iaload, 1, 0, 0, 0, 0, 0, 0, []), (11, .if_icmp .lt 5, 3, 16, 0, 0, 0, 0, 0, []), (14, .iconst 0, 1, 0, 0, 0, 0, 0, 0, []), (15, .ireturn, 1, 0, 0, 0, 0, 0, 0, []), (16, .aload_n 0, 1, 0, 0, 0, 0, 0, 0, []), (17, .getfield 40, 3, 3, 9, 104, 1, 0, 0, []), (20, .iload_n 1, 1, 0, 0, 0, 0, 0, 0, []), (21, .bipush 6, 2, 0, 0, 0, 0, 6, 0, []), (23, .imul, 1, 0, 0, 0, 0, 0, 0, []), (24, .iload_n 2, 1, 0, 0, 0, 0, 0, 0, []), (25, .iadd, 1, 0, 0, 0, 0, 0, 0, []), (26, .iaload, 1, 0, 0, 0, 0, 0, 0, []), (27, .istore_n 3, 1, 0, 0, 0, 0, 0, 0, []), (28, .aload_n 0, 1, 0, 0, 0, 0, 0, 0, []), (29, .iload_n 1, 1, 0, 0, 0, 0, 0, 0, []), (30, .invokevirtual 63, 3, 34, 3, 290, 1, 0, 0, []), (33, .ifCond .ne 5, 3, 38, 0, 0, 0, 0, 0, []), (36, .iload_n 3, 1, 0, 0, 0, 0, 0, 0, []), (37, .ireturn, 1, 0, 0, 0, 0, 0, 0, []), (38, .iload_n 3, 1, 0, 0, 0, 0, 0, 0, []), (39, .aload_n 0, 1, 0, 0, 0, 0, 0, 0, []), (40, .iload_n 1, 1, 0, 0, 0, 0, 0, 0, []), (41, .invokevirtual 78, 3, 40, 3, 407, 1, 0, 0, []), (44, .iload_n 2, 1, 0, 0, 0, 0, 0, 0, []), (45, .imul, 1, 0, 0, 0, 0, 0, 0, []), (46, .aload_n 0, 1, 0, 0, 0, 0, 0, 0, []), (47, .getfield 31, 3, 3, 6, 98, 1, 0, 0, []), (50, .iload_n 1, 1, 0, 0, 0, 0, 0, 0, []), (51, .iaload, 1, 0, 0, 0, 0, 0, 0, []), (52, .invokestatic 81, 3, 159, 0, 408, 1, 0, 0, []), (55, .isub, 1, 0, 0, 0, 0, 0, 0, []), (56, .ireturn, 1, 0, 0, 0, 0, 0, 0, [])]
def am_t42 : List aI := [(0, .aload_n 0, 1, 0, 0, 0, 0, 0, 0, []), (1, .iload_n 1, 1, 0, 0, 0, 0, 0, 0, []), (2, .iload_n 2, 1, 0, 0, 0, 0, 0, 0, []), (3, .iload_n 3, 1, 0, 0, 0, 0, 0, 0, []), (4, .invokevirtual 86, 3, 43, 3, 398, 1, 0, 0, []), (7, .istore 4, 2, 0, 0, 0, 0, 0, 0, []), (9, .iload 4, 2, 0, 0, 0, 0, 0, 0, []), (11, .ifCond .ne 7, 3, 18, 0, 0, 0, 0, 0, []), (14, .iload_n 3, 1, 0, 0, 0, 0, 0, 0, []), (15, .ifCond .ne 6, 3, 21, 0, 0, 0, 0, 0, []), (18, .iload 4, 2, 0, 0, 0, 0, 0, 0, []), (20, .ireturn, 1, 0, 0, 0, 0, 0, 0, []), (21, .aload_n 0, 1, 0, 0, 0, 0, 0, 0, []), (22, .iload_n 1, 1, 0, 0, 0, 0, 0, 0, []), (23, .iload_n 2, 1, 0, 0, 0, 0, 0, 0, []), (24, .iconst 0, 1, 0, 0, 0, 0, 0, 0, []), (25, .invokevirtual 86, 3, 43, 3, 398, 1, 0, 0, []), (28, .ifCond .ne 7, 3, 35, 0, 0, 0, 0, 0, []), (31, .iconst 0, 1, 0, 0, 0, 0, 0, 0, []), (32, .goto 4, 3, 36, 0, 0, 0, 0, 0, []), (35, .iconst 4, 1, 0, 0, 0, 0, 4, 0, []), (36, .ireturn, 1, 0, 0, 0, 0, 0, 0, [])]
def am_t43 : List aI := [(0, .iload_n 1, 1, 0, 0, 0, 0, 0, 0, []), (1, .iload_n 2, 1, 0, 0, 0, 0, 0, 0, []), (2, .iconst 0, 1, 0, 0, 0, 0, 0, 0, []), (3, .invokestatic 70, 3, 78, 1, 3, 1, 0, 0, []), (6, .istore 4, 2, 0, 0, 0, 0, 0, 0, []), (8, .iload_n 1, 1, 0, 0, 0, 0, 0, 0, []), (9, .iload_n 2, 1, 0, 0, 0, 0, 0, 0, []), (10, .iconst 1, 1, 0, 0, 0, 0, 1, 0, []), (11, .invokestatic 70, 3, 78, 1, 3, 1, 0, 0, []), (14, .istore 5, 2, 0, 0, 0, 0, 0, 0, []), (16, .aload_n 0, 1, 0, 0, 0, 0, 0, 0, []), (17, .iload 4, 2, 0, 0, 0, 0, 0, 0, []), (19, .iload_n 3, 1, 0, 0, 0, 0, 0, 0, []), (20, .invokevirtual 66, 3, 35, 3, 294, 1, 0, 0, []), (23, .istore 6, 2, 0, 0, 0, 0, 0, 0, []), (25, .aload_n 0, 1, 0, 0, 0, 0, 0, 0, []), (26, .iload 5, 2, 0, 0, 0, 0, 0, 0, []), (28, .iload_n 3, 1, 0, 0, 0, 0, 0, 0, []), (29, .invokevirtual 66, 3, 35, 3, 294, 1, 0, 0, []), (32, .istore 7, 2, 0, 0, 0, 0, 0, 0, []), (34, .iload 6, 2, 0, 0, 0, 0, 0, 0, []), (36, .iconst (-1), 1, 0, 0, 0, 0, (-1), 0, []), (37, .if_icmp .ne 5, 3, 42, 0, 0, 0, 0, 0, []), (40, .iconst 1, 1, 0, 0, 0, 0, 1, 0, []), (41, .ireturn, 1, 0, 0, 0, 0, 0, 0, []), (42, .iload 7, 2, 0, 0, 0, 0, 0, 0, []), (44, .iconst (-1), 1, 0, 0, 0, 0, (-1), 0, []), (45, .if_icmp .ne 5, 3, 50, 0, 0, 0, 0, 0, []), (48, .iconst 2, 1, 0, 0, 0, 0, 2, 0, []), (49, .ireturn, 1, 0, 0, 0, 0, 0, 0, []), (50, .aload_n 0, 1, 0, 0, 0, 0, 0, 0, []), (51, .getfield 43, 3, 3, 10, 106, 1, 0, 0, []), (54, .iload 4, 2, 0, 0, 0, 0, 0, 0, []), (56, .bipush 6, 2, 0, 0, 0, 0, 6, 0, []), (58, .imul, 1, 0, 0, 0, 0, 0, 0, []), (59, .iload 6, 2, 0, 0, 0, 0, 0, 0, []), (61, .iadd, 1, 0, 0, 0, 0, 0, 0, []), (62, .baload, 1, 0, 0, 0, 0, 0, 0, []), (63, .ifCond .ne 19, 3, 82, 0, 0, 0, 0, 0, []), (66, .aload_n 0, 1, 0, 0, 0, 0, 0, 0, []), (67, .getfield 43, 3, 3, 10, 106, 1, 0, 0, []), (70, .iload 5, 2, 0, 0, 0, 0, 0, 0, []), (72, .bipush 6, 2, 0, 0, 0, 0, 6, 0, []), (74, .imul, 1, 0, 0, 0, 0, 0, 0, []), (75, .iload 7, 2, 0, 0, 0, 0, 0, 0, []), (77, .iadd, 1, 0, 0, 0, 0, 0, 0, []), (78, .baload, 1, 0, 0, 0, 0, 0, 0, []), (79, .ifCond .eq 7, 3, 86, 0, 0, 0, 0, 0, []), (82, .iconst 1, 1, 0, 0, 0, 0, 1, 0, []), (83, .goto 4, 3, 87, 0, 0, 0, 0, 0, []), (86, .iconst 0, 1, 0, 0, 0, 0, 0, 0, []), (87, .istore 8, 2, 0, 0, 0, 0, 0, 0, []), (89, .iload 8, 2, 0, 0, 0, 0, 0, 0, []), (91, .ifCond .eq 7, 3, 98, 0, 0, 0, 0, 0, []), (94, .iconst 3, 1, 0, 0, 0, 0, 3, 0, []), (95, .goto 4, 3, 99, 0, 0, 0, 0, 0, []), (98, .iconst 0, 1, 0, 0, 0, 0, 0, 0, []), (99, .ireturn, 1, 0, 0, 0, 0, 0, 0, [])]
def am_t44 : List aI := [(0, .iconst 0, 1, 0, 0, 0, 0, 0, 0, []), (1, .istore_n 2, 1, 0, 0, 0, 0, 0, 0, []), (2, .iconst 0, 1, 0, 0, 0, 0, 0, 0, []), (3, .istore_n 3, 1, 0, 0, 0, 0, 0, 0, []), (4, .iload_n 3, 1, 0, 0, 0, 0, 0, 0, []), (5, .aload_n 0, 1, 0, 0, 0, 0, 0, 0, []), (6, .getfield 31, 3, 3, 6, 98, 1, 0, 0, []), (9, .iload_n 1, 1, 0, 0, 0, 0, 0, 0, []), (10, .iaload, 1, 0, 0, 0, 0, 0, 0, []), (11, .if_icmp .ge 26, 3, 37, 0, 0, 0, 0, 0, []), (14, .aload_n 0, 1, 0, 0, 0, 0, 0, 0, []), (15, .getfield 43, 3, 3, 10, 106, 1, 0, 0, []), (18, .iload_n 1, 1, 0, 0, 0, 0, 0, 0, []), (19, .bipush 6, 2, 0, 0, 0, 0, 6, 0, []), (21, .imul, 1, 0, 0, 0, 0, 0, 0, []), (22, .iload_n 3, 1, 0, 0, 0, 0, 0, 0, []), (23, .iadd, 1, 0, 0, 0, 0, 0, 0, []), (24, .baload, 1, 0, 0, 0, 0, 0, 0, []), (25, .ifCond .eq 6, 3, 31, 0, 0, 0, 0, 0, []), (28, .iinc 2 1, 3, 0, 0, 0, 0, 1, 0, []), (31, .iinc 3 1, 3, 0, 0, 0, 0, 1, 0, []), (34, .goto (-30), 3, 4, 0, 0, 0, 0, 0, []), (37, .iload_n 2, 1, 0, 0, 0, 0, 0, 0, []), (38, .ireturn, 1, 0, 0, 0, 0, 0, 0, [])]
def am_t45 : List aI := [(0, .aload_n 0, 1, 0, 0, 0, 0, 0, 0, []), (1, .iload_n 1, 1, 0, 0, 0, 0, 0, 0, []), (2, .iload_n 2, 1, 0, 0, 0, 0, 0, 0, []), (3, .iconst 0, 1, 0, 0, 0, 0, 0, 0, []), (4, .invokestatic 70, 3, 78, 1, 3, 1, 0, 0, []), (7, .invokevirtual 89, 3, 44, 3, 369, 1, 0, 0, []), (10, .aload_n 0, 1, 0, 0, 0, 0, 0, 0, []), (11, .iload_n 1, 1, 0, 0, 0, 0, 0, 0, []), (12, .iload_n 2, 1, 0, 0, 0, 0, 0, 0, []), (13, .iconst 1, 1, 0, 0, 0, 0, 1, 0, []), (14, .invokestatic 70, 3, 78, 1, 3, 1, 0, 0, []), (17, .invokevirtual 89, 3, 44, 3, 369, 1, 0, 0, []), (20, .iadd, 1, 0, 0, 0, 0, 0, 0, []), (21, .ireturn, 1, 0, 0, 0, 0, 0, 0, [])]
def am_t46 : List aI := [(0, .iconst 0, 1, 0, 0, 0, 0, 0, 0, []), (1, .istore_n 1, 1, 0, 0, 0, 0, 0, 0, []), (2, .iconst 0, 1, 0, 0, 0, 0, 0, 0, []), (3, .istore_n 2, 1, 0, 0, 0, 0, 0, 0, []), (4, .iload_n 2, 1, 0, 0, 0, 0, 0, 0, []), (5, .aload_n 0, 1, 0, 0, 0, 0, 0, 0, []), (6, .getfield 9, 3, 3, 0, 85, 0, 0, 0, []), (9, .if_icmp .ge 18, 3, 27, 0, 0, 0, 0, 0, []), (12, .iload_n 1, 1, 0, 0, 0, 0, 0, 0, []), (13, .aload_n 0, 1, 0, 0, 0, 0, 0, 0, []), (14, .getfield 18, 3, 3, 2, 89, 1, 0, 0, []), (17, .iload_n 2, 1, 0, 0, 0, 0, 0, 0, []), (18, .iaload, 1, 0, 0, 0, 0, 0, 0, []), (19, .iadd, 1, 0, 0, 0, 0, 0, 0, []), (20, .istore_n 1, 1, 0, 0, 0, 0, 0, 0, []), (21, .iinc 2 1, 3, 0, 0, 0, 0, 1, 0, []), (24, .goto (-20), 3, 4, 0, 0, 0, 0, 0, []), (27, .iload_n 1, 1, 0, 0, 0, 0, 0, 0, []), (28, .ireturn, 1, 0, 0, 0, 0, 0, 0, [])]
def am_t47 : List aI := [(0, .iconst 0, 1, 0, 0, 0, 0, 0, 0, []), (1, .istore_n 1, 1, 0, 0, 0, 0, 0, 0, []), (2, .iconst 0, 1, 0, 0, 0, 0, 0, 0, []), (3, .istore_n 2, 1, 0, 0, 0, 0, 0, 0, []), (4, .iload_n 2, 1, 0, 0, 0, 0, 0, 0, []), (5, .bipush 48, 2, 0, 0, 0, 0, 48, 0, []), (7, .if_icmp .ge 18, 3, 25, 0, 0, 0, 0, 0, []), (10, .iload_n 1, 1, 0, 0, 0, 0, 0, 0, []), (11, .aload_n 0, 1, 0, 0, 0, 0, 0, 0, []), (12, .getfield 31, 3, 3, 6, 98, 1, 0, 0, []), (15, .iload_n 2, 1, 0, 0, 0, 0, 0, 0, []), (16, .iaload, 1, 0, 0, 0, 0, 0, 0, []), (17, .iadd, 1, 0, 0, 0, 0, 0, 0, []), (18, .istore_n 1, 1, 0, 0, 0, 0, 0, 0, []), (19, .iinc 2 1, 3, 0, 0, 0, 0, 1, 0, []), (22, .goto (-18), 3, 4, 0, 0, 0, 0, 0, []), (25, .iload_n 1, 1, 0, 0, 0, 0, 0, 0, []), (26, .ireturn, 1, 0, 0, 0, 0, 0, 0, [])]
def am_t48 : List aI := [(0, .iconst 0, 1, 0, 0, 0, 0, 0, 0, []), (1, .istore_n 1, 1, 0, 0, 0, 0, 0, 0, []), (2, .iconst 0, 1, 0, 0, 0, 0, 0, 0, []), (3, .istore_n 2, 1, 0, 0, 0, 0, 0, 0, []), (4, .iload_n 2, 1, 0, 0, 0, 0, 0, 0, []), (5, .bipush 48, 2, 0, 0, 0, 0, 48, 0, []), (7, .if_icmp .ge 17, 3, 24, 0, 0, 0, 0, 0, []), (10, .iload_n 1, 1, 0, 0, 0, 0, 0, 0, []), (11, .aload_n 0, 1, 0, 0, 0, 0, 0, 0, []), (12, .iload_n 2, 1, 0, 0, 0, 0, 0, 0, []), (13, .invokevirtual 89, 3, 44, 3, 369, 1, 0, 0, []), (16, .iadd, 1, 0, 0, 0, 0, 0, 0, []), (17, .istore_n 1, 1, 0, 0, 0, 0, 0, 0, []), (18, .iinc 2 1, 3, 0, 0, 0, 0, 1, 0, []), (21, .goto (-17), 3, 4, 0, 0, 0, 0, 0, []), (24, .iload_n 1, 1, 0, 0, 0, 0, 0, 0, []), (25, .ireturn, 1, 0, 0, 0, 0, 0, 0, [])]
def am_t49 : List aI := [(0, .iconst 0, 1, 0, 0, 0, 0, 0, 0, []), (1, .istore_n 1, 1, 0, 0, 0, 0, 0, 0, []), (2, .iconst 0, 1, 0, 0, 0, 0, 0, 0, []), (3, .istore_n 2, 1, 0, 0, 0, 0, 0, 0, []), (4, .iload_n 2, 1, 0, 0, 0, 0, 0, 0, []), (5, .bipush 48, 2, 0, 0, 0, 0, 48, 0, []), (7, .if_icmp .ge 20, 3, 27, 0, 0, 0, 0, 0, []), (10, .aload_n 0, 1, 0, 0, 0, 0, 0, 0, []), (11, .iload_n 2, 1, 0, 0, 0, 0, 0, 0, []), (12, .invokevirtual 63, 3, 34, 3, 290, 1, 0, 0, []), (15, .ifCond .eq 6, 3, 21, 0, 0, 0, 0, 0, []), (18, .iinc 1 1, 3, 0, 0, 0, 0, 1, 0, []), (21, .iinc 2 1, 3, 0, 0, 0, 0, 1, 0, []), (24, .goto (-20), 3, 4, 0, 0, 0, 0, 0, []), (27, .iload_n 1, 1, 0, 0, 0, 0, 0, 0, []), (28, .ireturn, 1, 0, 0, 0, 0, 0, 0, [])]
def am_t50 : List aI := [(0, .aload_n 0, 1, 0, 0, 0, 0, 0, 0, []), (1, .invokespecial 3, 3, 0, 2, 73, 0, 0, 0, []), (4, .aload_n 0, 1, 0, 0, 0, 0, 0, 0, []), (5, .new 9, 3, 3, 59, 76, 11, 77, 0, []), (8, .dup, 1, 0, 0, 0, 0, 0, 0, []), (9, .invokespecial 11, 3, 30, 0, 78, 0, 0, 0, []), (12, .putfield 12, 3, 4, 0, 215, 1, 0, 0, []), (15, .aload_n 0, 1, 0, 0, 0, 0, 0, 0, []), (16, .new 9, 3, 3, 59, 76, 11, 77, 0, []), (19, .dup, 1, 0, 0, 0, 0, 0, 0, []), (20, .invokespecial 11, 3, 30, 0, 78, 0, 0, 0, []), (23, .putfield 16, 3, 4, 1, 216, 1, 0, 0, []), (26, .aload_n 0, 1, 0, 0, 0, 0, 0, 0, []), (27, .iconst 0, 1, 0, 0, 0, 0, 0, 0, []), (28, .putfield 19, 3, 4, 2, 217, 2, 0, 0, []), (31, .aload_n 0, 1, 0, 0, 0, 0, 0, 0, []), (32, .new 23, 3, 0, 61, 133, 2, 134, 0, []), (35, .dup, 1, 0, 0, 0, 0, 0, 0, []), (36, .invokespecial 25, 3, 0, 0, 135, 0, 0, 0, []), (39, .putfield 26, 3, 4, 3, 218, 1, 0, 0, []), (42, .aload_n 0, 1, 0, 0, 0, 0, 0, 0, []), (43, .new 30, 3, 1, 62, 150, 7, 151, 0, []), (46, .dup, 1, 0, 0, 0, 0, 0, 0, []), (47, .invokespecial 32, 3, 4, 1, 0, 0, 0, 0, []), (50, .putfield 33, 3, 4, 4, 219, 1, 0, 0, []), (53, .aload_n 0, 1, 0, 0, 0, 0, 0, 0, []), (54, .new 37, 3, 2, 63, 185, 6, 186, 0, []), (57, .dup, 1, 0, 0, 0, 0, 0, 0, []), (58, .invokespecial 39, 3, 13, 1, 1, 0, 0, 0, []), (61, .putfield 40, 3, 4, 5, 220, 1, 0, 0, []), (64, .return_, 1, 0, 0, 0, 0, 0, 0, [])]
def am_t51 : List aI := [(0, .aload_n 0, 1, 0, 0, 0, 0, 0, 0, []), (1, .getfield 12, 3, 4, 0, 215, 1, 0, 0, []), (4, .getfield 44, 3, 3, 0, 86, 0, 0, 0, []), (7, .iconst 4, 1, 0, 0, 0, 0, 4, 0, []), (8, .if_icmp .lt 6, 3, 14, 0, 0, 0, 0, 0, []), (11, .ldc 48, 2, 0, 0, 238, 0, (-2000003), 0, []), (13, .ireturn, 1, 0, 0, 0, 0, 0, 0, []), (14, .aload_n 0, 1, 0, 0, 0, 0, 0, 0, []), (15, .getfield 26, 3, 4, 3, 218, 1, 0, 0, []), (18, .aload_n 0, 1, 0, 0, 0, 0, 0, 0, []), (19, .getfield 12, 3, 4, 0, 215, 1, 0, 0, []), (22, .invokevirtual 49, 3, 1, 0, 239, 0, 0, 0, []), (25, .aload_n 0, 1, 0, 0, 0, 0, 0, 0, []), (26, .getfield 12, 3, 4, 0, 215, 1, 0, 0, []), (29, .dup, 1, 0, 0, 0, 0, 0, 0, []), (30, .getfield 44, 3, 3, 0, 86, 0, 0, 0, []), (33, .iconst 1, 1, 0, 0, 0, 0, 1, 0, []), (34, .iadd, 1, 0, 0, 0, 0, 0, 0, []), (35, .putfield 44, 3, 3, 0, 86, 0, 0, 0, []), (38, .aload_n 0, 1, 0, 0, 0, 0, 0, 0, []), (39, .getfield 12, 3, 4, 0, 215, 1, 0, 0, []), (42, .getfield 44, 3, 3, 0, 86, 0, 0, 0, []), (45, .iconst 1, 1, 0, 0, 0, 0, 1, 0, []), (46, .isub, 1, 0, 0, 0, 0, 0, 0, []), (47, .ireturn, 1, 0, 0, 0, 0, 0, 0, [])]
def am_t52 : List aI := [(0, .aload_n 0, 1, 0, 0, 0, 0, 0, 0, []), (1, .getfield 12, 3, 4, 0, 215, 1, 0, 0, []), (4, .iload_n 1, 1, 0, 0, 0, 0, 0, 0, []), (5, .invokevirtual 53, 3, 32, 3, 258, 1, 0, 0, []), (8, .ifCond .ne 6, 3, 14, 0, 0, 0, 0, 0, []), (11, .ldc 57, 2, 0, 0, 262, 0, (-2000001), 0, []), (13, .ireturn, 1, 0, 0, 0, 0, 0, 0, []), (14, .aload_n 0, 1, 0, 0, 0, 0, 0, 0, []), (15, .getfield 12, 3, 4, 0, 215, 1, 0, 0, []), (18, .getfield 58, 3, 3, 2, 91, 1, 0, 0, []), (21, .iload_n 1, 1, 0, 0, 0, 0, 0, 0, []), (22, .iaload, 1, 0, 0, 0, 0, 0, 0, []), (23, .bipush 6, 2, 0, 0, 0, 0, 6, 0, []), (25, .if_icmp .lt 6, 3, 31, 0, 0, 0, 0, 0, []), (28, .ldc 48, 2, 0, 0, 238, 0, (-2000003), 0, []), (30, .ireturn, 1, 0, 0, 0, 0, 0, 0, []), (31, .aload_n 0, 1, 0, 0, 0, 0, 0, 0, []), (32, .getfield 26, 3, 4, 3, 218, 1, 0, 0, []), (35, .aload_n 0, 1, 0, 0, 0, 0, 0, 0, []), (36, .getfield 12, 3, 4, 0, 215, 1, 0, 0, []), (39, .invokevirtual 49, 3, 1, 0, 239, 0, 0, 0, []), (42, .aload_n 0, 1, 0, 0, 0, 0, 0, 0, []), (43, .getfield 12, 3, 4, 0, 215, 1, 0, 0, []), (46, .getfield 58, 3, 3, 2, 91, 1, 0, 0, []), (49, .iload_n 1, 1, 0, 0, 0, 0, 0, 0, []), (50, .dup2, 1, 0, 0, 0, 0, 0, 0, []), (51, .iaload, 1, 0, 0, 0, 0, 0, 0, []), (52, .iconst 1, 1, 0, 0, 0, 0, 1, 0, []), (53, .iadd, 1, 0, 0, 0, 0, 0, 0, []), (54, .iastore, 1, 0, 0, 0, 0, 0, 0, []), (55, .aload_n 0, 1, 0, 0, 0, 0, 0, 0, []), (56, .getfield 12, 3, 4, 0, 215, 1, 0, 0, []), (59, .getfield 58, 3, 3, 2, 91, 1, 0, 0, []), (62, .iload_n 1, 1, 0, 0, 0, 0, 0, 0, []), (63, .iaload, 1, 0, 0, 0, 0, 0, 0, []), (64, .iconst 1, 1, 0, 0, 0, 0, 1, 0, []), (65, .isub, 1, 0, 0, 0, 0, 0, 0, []), (66, .ireturn, 1, 0, 0, 0, 0, 0, 0, [])]
def am_t53 : List aI := [(0, .aload_n 0, 1, 0, 0, 0, 0, 0, 0, []), (1, .getfield 12, 3, 4, 0, 215, 1, 0, 0, []), (4, .iload_n 1, 1, 0, 0, 0, 0, 0, 0, []), (5, .iload_n 2, 1, 0, 0, 0, 0, 0, 0, []), (6, .invokevirtual 62, 3, 33, 3, 267, 1, 0, 0, []), (9, .ifCond .eq 10, 3, 19, 0, 0, 0, 0, 0, []), (12, .iload_n 3, 1, 0, 0, 0, 0, 0, 0, []), (13, .invokestatic 66, 3, 75, 0, 272, 1, 0, 0, []), (16, .ifCond .ne 6, 3, 22, 0, 0, 0, 0, 0, []), (19, .ldc 57, 2, 0, 0, 262, 0, (-2000001), 0, []), (21, .ireturn, 1, 0, 0, 0, 0, 0, 0, []), (22, .iload 4, 2, 0, 0, 0, 0, 0, 0, []), (24, .invokestatic 69, 3, 76, 0, 275, 1, 0, 0, []), (27, .ifCond .eq 11, 3, 38, 0, 0, 0, 0, 0, []), (30, .iload 5, 2, 0, 0, 0, 0, 0, 0, []), (32, .invokestatic 72, 3, 77, 0, 278, 1, 0, 0, []), (35, .ifCond .ne 6, 3, 41, 0, 0, 0, 0, 0, []), (38, .ldc 75, 2, 0, 0, 282, 0, (-2000002), 0, []), (40, .ireturn, 1, 0, 0, 0, 0, 0, 0, []), (41, .iload_n 1, 1, 0, 0, 0, 0, 0, 0, []), (42, .iload_n 2, 1, 0, 0, 0, 0, 0, 0, []), (43, .iload 4, 2, 0, 0, 0, 0, 0, 0, []), (45, .invokestatic 76, 3, 78, 0, 283, 1, 0, 0, []), (48, .istore 6, 2, 0, 0, 0, 0, 0, 0, []), (50, .aload_n 0, 1, 0, 0, 0, 0, 0, 0, []), (51, .getfield 12, 3, 4, 0, 215, 1, 0, 0, []), (54, .iload 6, 2, 0, 0, 0, 0, 0, 0, []), (56, .iload_n 3, 1, 0, 0, 0, 0, 0, 0, []), (57, .invokevirtual 80, 3, 36, 3, 286, 1, 0, 0, []), (60, .ifCond .ne 6, 3, 66, 0, 0, 0, 0, 0, []), (63, .ldc 83, 2, 0, 0, 298, 0, (-2000004), 0, []), (65, .ireturn, 1, 0, 0, 0, 0, 0, 0, []), (66, .aload_n 0, 1, 0, 0, 0, 0, 0, 0, []), (67, .getfield 26, 3, 4, 3, 218, 1, 0, 0, []), (70, .aload_n 0, 1, 0, 0, 0, 0, 0, 0, []), (71, .getfield 12, 3, 4, 0, 215, 1, 0, 0, []), (74, .invokevirtual 49, 3, 1, 0, 239, 0, 0, 0, []), (77, .aload_n 0, 1, 0, 0, 0, 0, 0, 0, []), (78, .getfield 12, 3, 4, 0, 215, 1, 0, 0, []), (81, .iload 6, 2, 0, 0, 0, 0, 0, 0, []), (83, .iload_n 3, 1, 0, 0, 0, 0, 0, 0, []), (84, .iload 5, 2, 0, 0, 0, 0, 0, 0, []), (86, .invokevirtual 84, 3, 37, 3, 299, 0, 0, 0, []), (89, .aload_n 0, 1, 0, 0, 0, 0, 0, 0, []), (90, .getfield 12, 3, 4, 0, 215, 1, 0, 0, []), (93, .getfield 88, 3, 3, 6, 99, 1, 0, 0, []), (96, .iload 6, 2, 0, 0, 0, 0, 0, 0, []), (98, .iaload, 1, 0, 0, 0, 0, 0, 0, []), (99, .ireturn, 1, 0, 0, 0, 0, 0, 0, [])]
def am_t54 : List aI := [(0, .aload_n 0, 1, 0, 0, 0, 0, 0, 0, []), (1, .getfield 12, 3, 4, 0, 215, 1, 0, 0, []), (4, .iload_n 1, 1, 0, 0, 0, 0, 0, 0, []), (5, .iload_n 2, 1, 0, 0, 0, 0, 0, 0, []), (6, .invokevirtual 62, 3, 33, 3, 267, 1, 0, 0, []), (9, .ifCond .ne 6, 3, 15, 0, 0, 0, 0, 0, []), (12, .ldc 57, 2, 0, 0, 262, 0, (-2000001), 0, []), (14, .ireturn, 1, 0, 0, 0, 0, 0, 0, []), (15, .aload_n 0, 1, 0, 0, 0, 0, 0, 0, []), (16, .getfield 33, 3, 4, 4, 219, 1, 0, 0, []), (19, .invokevirtual 91, 3, 5, 1, 307, 1, 0, 0, []), (22, .istore_n 3, 1, 0, 0, 0, 0, 0, 0, []), (23, .iload_n 3, 1, 0, 0, 0, 0, 0, 0, []), (24, .iconst (-1), 1, 0, 0, 0, 0, (-1), 0, []), (25, .if_icmp .eq 8, 3, 33, 0, 0, 0, 0, 0, []), (28, .ldc 95, 2, 0, 0, 339, 0, (-2000100), 0, []), (30, .iload_n 3, 1, 0, 0, 0, 0, 0, 0, []), (31, .isub, 1, 0, 0, 0, 0, 0, 0, []), (32, .ireturn, 1, 0, 0, 0, 0, 0, 0, []), (33, .aload_n 0, 1, 0, 0, 0, 0, 0, 0, []), (34, .iload_n 1, 1, 0, 0, 0, 0, 0, 0, []), (35, .iload_n 2, 1, 0, 0, 0, 0, 0, 0, []), (36, .invokevirtual 96, 3, 80, 4, 340, 1, 0, 0, []), (39, .ifCond .ne 6, 3, 45, 0, 0, 0, 0, 0, []), (42, .ldc 83, 2, 0, 0, 298, 0, (-2000004), 0, []), (44, .ireturn, 1, 0, 0, 0, 0, 0, 0, []), (45, .aload_n 0, 1, 0, 0, 0, 0, 0, 0, []), (46, .getfield 26, 3, 4, 3, 218, 1, 0, 0, []), (49, .aload_n 0, 1, 0, 0, 0, 0, 0, 0, []), (50, .getfield 12, 3, 4, 0, 215, 1, 0, 0, []), (53, .invokevirtual 49, 3, 1, 0, 239, 0, 0, 0, []), (56, .iconst 0, 1, 0, 0, 0, 0, 0, 0, []), (57, .istore 4, 2, 0, 0, 0, 0, 0, 0, []), (59, .iload 4, 2, 0, 0, 0, 0, 0, 0, []), (61, .aload_n 0, 1, 0, 0, 0, 0, 0, 0, []), (62, .getfield 33, 3, 4, 4, 219, 1, 0, 0, []), (65, .getfield 99, 3, 1, 5, 167, 0, 0, 0, []), (68, .if_icmp .ge 51, 3, 119, 0, 0, 0, 0, 0, []), (71, .aload_n 0, 1, 0, 0, 0, 0, 0, 0, []), (72, .getfield 12, 3, 4, 0, 215, 1, 0, 0, []), (75, .iload_n 1, 1, 0, 0, 0, 0, 0, 0, []), (76, .iload_n 2, 1, 0, 0, 0, 0, 0, 0, []), (77, .aload_n 0, 1, 0, 0, 0, 0, 0, 0, []), (78, .getfield 33, 3, 4, 4, 219, 1, 0, 0, []), (81, .getfield 102, 3, 1, 3, 163, 1, 0, 0, []), (84, .iload 4, 2, 0, 0, 0, 0, 0, 0, []), (86, .iaload, 1, 0, 0, 0, 0, 0, 0, []), (87, .invokestatic 76, 3, 78, 0, 283, 1, 0, 0, []), (90, .aload_n 0, 1, 0, 0, 0, 0, 0, 0, []), (91, .getfield 33, 3, 4, 4, 219, 1, 0, 0, []), (94, .getfield 105, 3, 1, 2, 161, 1, 0, 0, []), (97, .iload 4, 2, 0, 0, 0, 0, 0, 0, []), (99, .iaload, 1, 0, 0, 0, 0, 0, 0, []), (100, .aload_n 0, 1, 0, 0, 0, 0, 0, 0, []), (101, .getfield 33, 3, 4, 4, 219, 1, 0, 0, []), (104, .getfield 108, 3, 1, 4, 165, 1, 0, 0, []), (107, .iload 4, 2, 0, 0, 0, 0, 0, 0, []), (109, .iaload, 1, 0, 0, 0, 0, 0, 0, []), (110, .invokevirtual 84, 3, 37, 3, 299, 0, 0, 0, []), (113, .iinc 4 1, 3, 0, 0, 0, 0, 1, 0, []), (116, .goto (-57), 3, 59, 0, 0, 0, 0, 0, []), (119, .aload_n 0, 1, 0, 0, 0, 0, 0, 0, []), (120, .getfield 33, 3, 4, 4, 219, 1, 0, 0, []), (123, .getfield 99, 3, 1, 5, 167, 0, 0, 0, []), (126, .ireturn, 1, 0, 0, 0, 0, 0, 0, [])]
def am_t55 : List aI := [(0, .aload_n 0, 1, 0, 0, 0, 0, 0, 0, []), (1, .getfield 12, 3, 4, 0, 215, 1, 0, 0, []), (4, .iload_n 1, 1, 0, 0, 0, 0, 0, 0, []), (5, .iload_n 2, 1, 0, 0, 0, 0, 0, 0, []), (6, .invokevirtual 62, 3, 33, 3, 267, 1, 0, 0, []), (9, .ifCond .ne 6, 3, 15, 0, 0, 0, 0, 0, []), (12, .ldc 57, 2, 0, 0, 262, 0, (-2000001), 0, []), (14, .ireturn, 1, 0, 0, 0, 0, 0, 0, []), (15, .iload_n 3, 1, 0, 0, 0, 0, 0, 0, []), (16, .invokestatic 69, 3, 76, 0, 275, 1, 0, 0, []), (19, .ifCond .eq 11, 3, 30, 0, 0, 0, 0, 0, []), (22, .iload 4, 2, 0, 0, 0, 0, 0, 0, []), (24, .invokestatic 72, 3, 77, 0, 278, 1, 0, 0, []), (27, .ifCond .ne 6, 3, 33, 0, 0, 0, 0, 0, []), (30, .ldc 75, 2, 0, 0, 282, 0, (-2000002), 0, []), (32, .ireturn, 1, 0, 0, 0, 0, 0, 0, []), (33, .iload_n 1, 1, 0, 0, 0, 0, 0, 0, []), (34, .iload_n 2, 1, 0, 0, 0, 0, 0, 0, []), (35, .iload_n 3, 1, 0, 0, 0, 0, 0, 0, []), (36, .invokestatic 76, 3, 78, 0, 283, 1, 0, 0, []), (39, .istore 5, 2, 0, 0, 0, 0, 0, 0, []), (41, .aload_n 0, 1, 0, 0, 0, 0, 0, 0, []), (42, .getfield 12, 3, 4, 0, 215, 1, 0, 0, []), (45, .iload 5, 2, 0, 0, 0, 0, 0, 0, []), (47, .invokevirtual 111, 3, 34, 3, 348, 1, 0, 0, []), (50, .ifCond .ne 16, 3, 66, 0, 0, 0, 0, 0, []), (53, .aload_n 0, 1, 0, 0, 0, 0, 0, 0, []), (54, .getfield 12, 3, 4, 0, 215, 1, 0, 0, []), (57, .getfield 88, 3, 3, 6, 99, 1, 0, 0, []), (60, .iload 5, 2, 0, 0, 0, 0, 0, 0, []), (62, .iaload, 1, 0, 0, 0, 0, 0, 0, []), (63, .ifCond .ne 6, 3, 69, 0, 0, 0, 0, 0, []), (66, .ldc 83, 2, 0, 0, 298, 0, (-2000004), 0, []), (68, .ireturn, 1, 0, 0, 0, 0, 0, 0, []), (69, .aload_n 0, 1, 0, 0, 0, 0, 0, 0, []), (70, .getfield 26, 3, 4, 3, 218, 1, 0, 0, []), (73, .aload_n 0, 1, 0, 0, 0, 0, 0, 0, []), (74, .getfield 12, 3, 4, 0, 215, 1, 0, 0, []), (77, .invokevirtual 49, 3, 1, 0, 239, 0, 0, 0, []), (80, .aload_n 0, 1, 0, 0, 0, 0, 0, 0, []), (81, .getfield 12, 3, 4, 0, 215, 1, 0, 0, []), (84, .getfield 114, 3, 3, 7, 101, 1, 0, 0, []), (87, .iload 5, 2, 0, 0, 0, 0, 0, 0, []), (89, .iload 4, 2, 0, 0, 0, 0, 0, 0, []), (91, .iastore, 1, 0, 0, 0, 0, 0, 0, []), (92, .aload_n 0, 1, 0, 0, 0, 0, 0, 0, []), (93, .getfield 12, 3, 4, 0, 215, 1, 0, 0, []), (96, .iload 5, 2, 0, 0, 0, 0, 0, 0, []), (98, .invokevirtual 117, 3, 40, 3, 349, 1, 0, 0, []), (101, .ireturn, 1, 0, 0, 0, 0, 0, 0, [])]
def am_t56 : List aI := [(0, .aload_n 0, 1, 0, 0, 0, 0, 0, 0, []), (1, .getfield 12, 3, 4, 0, 215, 1, 0, 0, []), (4, .iload_n 1, 1, 0, 0, 0, 0, 0, 0, []), (5, .iload_n 2, 1, 0, 0, 0, 0, 0, 0, []), (6, .invokevirtual 62, 3, 33, 3, 267, 1, 0, 0, []), (9, .ifCond .ne 6, 3, 15, 0, 0, 0, 0, 0, []), (12, .ldc 57, 2, 0, 0, 262, 0, (-2000001), 0, []), (14, .ireturn, 1, 0, 0, 0, 0, 0, 0, []), (15, .iload 4, 2, 0, 0, 0, 0, 0, 0, []), (17, .invokestatic 69, 3, 76, 0, 275, 1, 0, 0, []), (20, .ifCond .ne 6, 3, 26, 0, 0, 0, 0, 0, []), (23, .ldc 75, 2, 0, 0, 282, 0, (-2000002), 0, []), (25, .ireturn, 1, 0, 0, 0, 0, 0, 0, []), (26, .iload_n 1, 1, 0, 0, 0, 0, 0, 0, []), (27, .iload_n 2, 1, 0, 0, 0, 0, 0, 0, []), (28, .iload 4, 2, 0, 0, 0, 0, 0, 0, []), (30, .invokestatic 76, 3, 78, 0, 283, 1, 0, 0, []), (33, .istore 6, 2, 0, 0, 0, 0, 0, 0, []), (35, .aload_n 0, 1, 0, 0, 0, 0, 0, 0, []), (36, .getfield 12, 3, 4, 0, 215, 1, 0, 0, []), (39, .iload 6, 2, 0, 0, 0, 0, 0, 0, []), (41, .iload_n 3, 1, 0, 0, 0, 0, 0, 0, []), (42, .invokevirtual 121, 3, 35, 3, 362, 1, 0, 0, []), (45, .istore 7, 2, 0, 0, 0, 0, 0, 0, []), (47, .iload 7, 2, 0, 0, 0, 0, 0, 0, []), (49, .iconst (-1), 1, 0, 0, 0, 0, (-1), 0, []), (50, .if_icmp .ne 6, 3, 56, 0, 0, 0, 0, 0, []), (53, .ldc 57, 2, 0, 0, 262, 0, (-2000001), 0, []), (55, .ireturn, 1, 0, 0, 0, 0, 0, 0, []), (56, .aload_n 0, 1, 0, 0, 0, 0, 0, 0, []), (57, .getfield 12, 3, 4, 0, 215, 1, 0, 0, []), (60, .getfield 125, 3, 3, 10, 107, 1, 0, 0, []), (63, .iload 6, 2, 0, 0, 0, 0, 0, 0, []), (65, .bipush 6, 2, 0, 0, 0, 0, 6, 0, []), (67, .imul, 1, 0, 0, 0, 0, 0, 0, []), (68, .iload 7, 2, 0, 0, 0, 0, 0, 0, []), (70, .iadd, 1, 0, 0, 0, 0, 0, 0, []), (71, .baload, 1, 0, 0, 0, 0, 0, 0, []), (72, .iload 5, 2, 0, 0, 0, 0, 0, 0, []), (74, .if_icmp .ne 6, 3, 80, 0, 0, 0, 0, 0, []), (77, .ldc 129, 2, 0, 0, 363, 0, (-2000005), 0, []), (79, .ireturn, 1, 0, 0, 0, 0, 0, 0, []), (80, .aload_n 0, 1, 0, 0, 0, 0, 0, 0, []), (81, .getfield 26, 3, 4, 3, 218, 1, 0, 0, []), (84, .aload_n 0, 1, 0, 0, 0, 0, 0, 0, []), (85, .getfield 12, 3, 4, 0, 215, 1, 0, 0, []), (88, .invokevirtual 49, 3, 1, 0, 239, 0, 0, 0, []), (91, .aload_n 0, 1, 0, 0, 0, 0, 0, 0, []), (92, .getfield 12, 3, 4, 0, 215, 1, 0, 0, []), (95, .getfield 125, 3, 3, 10, 107, 1, 0, 0, []), (98, .iload 6, 2, 0, 0, 0, 0, 0, 0, []), (100, .bipush 6, 2, 0, 0, 0, 0, 6, 0, []), (102, .imul, 1, 0, 0, 0, 0, 0, 0, []), (103, .iload 7, 2, 0, 0, 0, 0, 0, 0, []), (105, .iadd, 1, 0, 0, 0, 0, 0, 0, []), (106, .iload 5, 2, 0, 0, 0, 0, 0, 0, []), (108, .bastore, 1, 0, 0, 0, 0, 0, 0, []), (109, .aload_n 0, 1, 0, 0, 0, 0, 0, 0, []), (110, .getfield 12, 3, 4, 0, 215, 1, 0, 0, []), (113, .iload_n 1, 1, 0, 0, 0, 0, 0, 0, []), (114, .iload_n 2, 1, 0, 0, 0, 0, 0, 0, []), (115, .invokevirtual 130, 3, 45, 3, 364, 1, 0, 0, []), (118, .ireturn, 1, 0, 0, 0, 0, 0, 0, [])]
def am_t57 : List aI := [(0, .aload_n 0, 1, 0, 0, 0, 0, 0, 0, []), (1, .getfield 12, 3, 4, 0, 215, 1, 0, 0, []), (4, .iload_n 1, 1, 0, 0, 0, 0, 0, 0, []), (5, .iload_n 2, 1, 0, 0, 0, 0, 0, 0, []), (6, .invokevirtual 62, 3, 33, 3, 267, 1, 0, 0, []), (9, .ifCond .eq 10, 3, 19, 0, 0, 0, 0, 0, []), (12, .iload_n 3, 1, 0, 0, 0, 0, 0, 0, []), (13, .invokestatic 66, 3, 75, 0, 272, 1, 0, 0, []), (16, .ifCond .ne 6, 3, 22, 0, 0, 0, 0, 0, []), (19, .ldc 57, 2, 0, 0, 262, 0, (-2000001), 0, []), (21, .ireturn, 1, 0, 0, 0, 0, 0, 0, []), (22, .iconst 0, 1, 0, 0, 0, 0, 0, 0, []), (23, .istore 4, 2, 0, 0, 0, 0, 0, 0, []), (25, .iconst 0, 1, 0, 0, 0, 0, 0, 0, []), (26, .istore 5, 2, 0, 0, 0, 0, 0, 0, []), (28, .iload 5, 2, 0, 0, 0, 0, 0, 0, []), (30, .iconst 2, 1, 0, 0, 0, 0, 2, 0, []), (31, .if_icmp .ge 59, 3, 90, 0, 0, 0, 0, 0, []), (34, .iload_n 1, 1, 0, 0, 0, 0, 0, 0, []), (35, .iload_n 2, 1, 0, 0, 0, 0, 0, 0, []), (36, .iload 5, 2, 0, 0, 0, 0, 0, 0, []), (38, .invokestatic 76, 3, 78, 0, 283, 1, 0, 0, []), (41, .istore 6, 2, 0, 0, 0, 0, 0, 0, []), (43, .aload_n 0, 1, 0, 0, 0, 0, 0, 0, []), (44, .getfield 12, 3, 4, 0, 215, 1, 0, 0, []), (47, .iload 6, 2, 0, 0, 0, 0, 0, 0, []), (49, .iload_n 3, 1, 0, 0, 0, 0, 0, 0, []), (50, .invokevirtual 121, 3, 35, 3, 362, 1, 0, 0, []), (53, .istore 7, 2, 0, 0, 0, 0, 0, 0, []), (55, .iload 7, 2, 0, 0, 0, 0, 0, 0, []), (57, .ifCond .ne 18, 3, 75, 0, 0, 0, 0, 0, []), (60, .aload_n 0, 1, 0, 0, 0, 0, 0, 0, []), (61, .getfield 12, 3, 4, 0, 215, 1, 0, 0, []), (64, .iload 6, 2, 0, 0, 0, 0, 0, 0, []), (66, .invokevirtual 111, 3, 34, 3, 348, 1, 0, 0, []), (69, .ifCond .eq 6, 3, 75, 0, 0, 0, 0, 0, []), (72, .ldc 83, 2, 0, 0, 298, 0, (-2000004), 0, []), (74, .ireturn, 1, 0, 0, 0, 0, 0, 0, []), (75, .iload 7, 2, 0, 0, 0, 0, 0, 0, []), (77, .iconst (-1), 1, 0, 0, 0, 0, (-1), 0, []), (78, .if_icmp .eq 6, 3, 84, 0, 0, 0, 0, 0, []), (81, .iinc 4 1, 3, 0, 0, 0, 0, 1, 0, []), (84, .iinc 5 1, 3, 0, 0, 0, 0, 1, 0, []), (87, .goto (-59), 3, 28, 0, 0, 0, 0, 0, []), (90, .iload 4, 2, 0, 0, 0, 0, 0, 0, []), (92, .ifCond .ne 6, 3, 98, 0, 0, 0, 0, 0, []), (95, .ldc 129, 2, 0, 0, 363, 0, (-2000005), 0, []), (97, .ireturn, 1, 0, 0, 0, 0, 0, 0, []), (98, .aload_n 0, 1, 0, 0, 0, 0, 0, 0, []), (99, .getfield 26, 3, 4, 3, 218, 1, 0, 0, []), (102, .aload_n 0, 1, 0, 0, 0, 0, 0, 0, []), (103, .getfield 12, 3, 4, 0, 215, 1, 0, 0, []), (106, .invokevirtual 49, 3, 1, 0, 239, 0, 0, 0, []), (109, .iconst 0, 1, 0, 0, 0, 0, 0, 0, []), (110, .istore 5, 2, 0, 0, 0, 0, 0, 0, []), (112, .iload 5, 2, 0, 0, 0, 0, 0, 0, []), (114, .iconst 2, 1, 0, 0, 0, 0, 2, 0, []), (115, .if_icmp .ge 24, 3, 139, 0, 0, 0, 0, 0, []), (118, .aload_n 0, 1, 0, 0, 0, 0, 0, 0, []), (119, .getfield 12, 3, 4, 0, 215, 1, 0, 0, []), (122, .iload_n 1, 1, 0, 0, 0, 0, 0, 0, []), (123, .iload_n 2, 1, 0, 0, 0, 0, 0, 0, []), (124, .iload 5, 2, 0, 0, 0, 0, 0, 0, []), (126, .invokestatic 76, 3, 78, 0, 283, 1, 0, 0, []), (129, .iload_n 3, 1, 0, 0, 0, 0, 0, 0, []), (130, .invokevirtual 133, 3, 38, 3, 377, 0, 0, 0, []), (133, .iinc 5 1, 3, 0, 0, 0, 0, 1, 0, []), (136, .goto (-24), 3, 112, 0, 0, 0, 0, 0, []), (139, .iload 4, 2, 0, 0, 0, 0, 0, 0, []), (141, .ireturn, 1, 0, 0, 0, 0, 0, 0, [])]
def am_t58 : List aI := [(0, .aload_n 0, 1, 0, 0, 0, 0, 0, 0, []), (1, .getfield 12, 3, 4, 0, 215, 1, 0, 0, []), (4, .iload_n 1, 1, 0, 0, 0, 0, 0, 0, []), (5, .invokevirtual 53, 3, 32, 3, 258, 1, 0, 0, []), (8, .ifCond .ne 6, 3, 14, 0, 0, 0, 0, 0, []), (11, .ldc 57, 2, 0, 0, 262, 0, (-2000001), 0, []), (13, .ireturn, 1, 0, 0, 0, 0, 0, 0, []), (14, .aload_n 0, 1, 0, 0, 0, 0, 0, 0, []), (15, .getfield 40, 3, 4, 5, 220, 1, 0, 0, []), (18, .aload_n 0, 1, 0, 0, 0, 0, 0, 0, []), (19, .getfield 12, 3, 4, 0, 215, 1, 0, 0, []), (22, .iload_n 1, 1, 0, 0, 0, 0, 0, 0, []), (23, .invokevirtual 137, 3, 14, 2, 385, 0, 0, 0, []), (26, .aload_n 0, 1, 0, 0, 0, 0, 0, 0, []), (27, .getfield 40, 3, 4, 5, 220, 1, 0, 0, []), (30, .aload_n 0, 1, 0, 0, 0, 0, 0, 0, []), (31, .getfield 12, 3, 4, 0, 215, 1, 0, 0, []), (34, .getfield 141, 3, 3, 1, 88, 0, 0, 0, []), (37, .invokevirtual 144, 3, 24, 2, 430, 1, 0, 0, []), (40, .istore_n 2, 1, 0, 0, 0, 0, 0, 0, []), (41, .iload_n 2, 1, 0, 0, 0, 0, 0, 0, []), (42, .iconst (-1), 1, 0, 0, 0, 0, (-1), 0, []), (43, .if_icmp .ne 6, 3, 49, 0, 0, 0, 0, 0, []), (46, .ldc 129, 2, 0, 0, 363, 0, (-2000005), 0, []), (48, .ireturn, 1, 0, 0, 0, 0, 0, 0, []), (49, .aload_n 0, 1, 0, 0, 0, 0, 0, 0, []), (50, .getfield 26, 3, 4, 3, 218, 1, 0, 0, []), (53, .aload_n 0, 1, 0, 0, 0, 0, 0, 0, []), (54, .getfield 12, 3, 4, 0, 215, 1, 0, 0, []), (57, .invokevirtual 49, 3, 1, 0, 239, 0, 0, 0, []), (60, .iconst 0, 1, 0, 0, 0, 0, 0, 0, []), (61, .istore_n 3, 1, 0, 0, 0, 0, 0, 0, []), (62, .iload_n 2, 1, 0, 0, 0, 0, 0, 0, []), (63, .iconst (-1), 1, 0, 0, 0, 0, (-1), 0, []), (64, .if_icmp .eq 58, 3, 122, 0, 0, 0, 0, 0, []), (67, .iload_n 3, 1, 0, 0, 0, 0, 0, 0, []), (68, .bipush 36, 2, 0, 0, 0, 0, 36, 0, []), (70, .if_icmp .ge 52, 3, 122, 0, 0, 0, 0, 0, []), (73, .aload_n 0, 1, 0, 0, 0, 0, 0, 0, []), (74, .getfield 12, 3, 4, 0, 215, 1, 0, 0, []), (77, .iload_n 1, 1, 0, 0, 0, 0, 0, 0, []), (78, .iload_n 2, 1, 0, 0, 0, 0, 0, 0, []), (79, .bipush 6, 2, 0, 0, 0, 0, 6, 0, []), (81, .idiv, 1, 0, 0, 0, 0, 0, 0, []), (82, .iload_n 2, 1, 0, 0, 0, 0, 0, 0, []), (83, .bipush 6, 2, 0, 0, 0, 0, 6, 0, []), (85, .irem, 1, 0, 0, 0, 0, 0, 0, []), (86, .invokevirtual 147, 3, 39, 3, 441, 0, 0, 0, []), (89, .iinc 3 1, 3, 0, 0, 0, 0, 1, 0, []), (92, .aload_n 0, 1, 0, 0, 0, 0, 0, 0, []), (93, .getfield 40, 3, 4, 5, 220, 1, 0, 0, []), (96, .aload_n 0, 1, 0, 0, 0, 0, 0, 0, []), (97, .getfield 12, 3, 4, 0, 215, 1, 0, 0, []), (100, .iload_n 1, 1, 0, 0, 0, 0, 0, 0, []), (101, .invokevirtual 137, 3, 14, 2, 385, 0, 0, 0, []), (104, .aload_n 0, 1, 0, 0, 0, 0, 0, 0, []), (105, .getfield 40, 3, 4, 5, 220, 1, 0, 0, []), (108, .aload_n 0, 1, 0, 0, 0, 0, 0, 0, []), (109, .getfield 12, 3, 4, 0, 215, 1, 0, 0, []), (112, .getfield 141, 3, 3, 1, 88, 0, 0, 0, []), (115, .invokevirtual 144, 3, 24, 2, 430, 1, 0, 0, []), (118, .istore_n 2, 1, 0, 0, 0, 0, 0, 0, []), (119, .goto (-57), 3, 62, 0, 0, 0, 0, 0, []), (122, .iload_n 3, 1, 0, 0, 0, 0, 0, 0, []), (123, .ireturn, 1, 0, 0, 0, 0, 0, 0, [])]
def am_t59 : List aI := [(0, .iload_n 1, 1, 0, 0, 0, 0, 0, 0, []), (1, .iconst 1, 1, 0, 0, 0, 0, 1, 0, []), (2, .if_icmp .lt 10, 3, 12, 0, 0, 0, 0, 0, []), (5, .iload_n 1, 1, 0, 0, 0, 0, 0, 0, []), (6, .sipush 600, 3, 0, 0, 0, 0, 600, 0, []), (9, .if_icmp .le 6, 3, 15, 0, 0, 0, 0, 0, []), (12, .ldc 75, 2, 0, 0, 282, 0, (-2000002), 0, []), (14, .ireturn, 1, 0, 0, 0, 0, 0, 0, []), (15, .aload_n 0, 1, 0, 0, 0, 0, 0, 0, []), (16, .getfield 12, 3, 4, 0, 215, 1, 0, 0, []), (19, .getfield 141, 3, 3, 1, 88, 0, 0, 0, []), (22, .istore_n 2, 1, 0, 0, 0, 0, 0, 0, []), (23, .iload_n 2, 1, 0, 0, 0, 0, 0, 0, []), (24, .iload_n 1, 1, 0, 0, 0, 0, 0, 0, []), (25, .if_icmp .ne 6, 3, 31, 0, 0, 0, 0, 0, []), (28, .ldc 129, 2, 0, 0, 363, 0, (-2000005), 0, []), (30, .ireturn, 1, 0, 0, 0, 0, 0, 0, []), (31, .aload_n 0, 1, 0, 0, 0, 0, 0, 0, []), (32, .getfield 26, 3, 4, 3, 218, 1, 0, 0, []), (35, .aload_n 0, 1, 0, 0, 0, 0, 0, 0, []), (36, .getfield 12, 3, 4, 0, 215, 1, 0, 0, []), (39, .invokevirtual 49, 3, 1, 0, 239, 0, 0, 0, []), (42, .aload_n 0, 1, 0, 0, 0, 0, 0, 0, []), (43, .getfield 12, 3, 4, 0, 215, 1, 0, 0, []), (46, .iload_n 1, 1, 0, 0, 0, 0, 0, 0, []), (47, .putfield 141, 3, 3, 1, 88, 0, 0, 0, []), (50, .iload_n 2, 1, 0, 0, 0, 0, 0, 0, []), (51, .ireturn, 1, 0, 0, 0, 0, 0, 0, [])]
def am_t60 : List aI := [(0, .aload_n 0, 1, 0, 0, 0, 0, 0, 0, []), (1, .getfield 12, 3, 4, 0, 215, 1, 0, 0, []), (4, .iload_n 1, 1, 0, 0, 0, 0, 0, 0, []), (5, .invokevirtual 53, 3, 32, 3, 258, 1, 0, 0, []), (8, .ifCond .ne 6, 3, 14, 0, 0, 0, 0, 0, []), (11, .ldc 57, 2, 0, 0, 262, 0, (-2000001), 0, []), (13, .ireturn, 1, 0, 0, 0, 0, 0, 0, []), (14, .iload_n 2, 1, 0, 0, 0, 0, 0, 0, []), (15, .ifCond .lt 19, 3, 34, 0, 0, 0, 0, 0, []), (18, .iload_n 2, 1, 0, 0, 0, 0, 0, 0, []), (19, .bipush 99, 2, 0, 0, 0, 0, 99, 0, []), (21, .if_icmp .gt 13, 3, 34, 0, 0, 0, 0, 0, []), (24, .iload_n 3, 1, 0, 0, 0, 0, 0, 0, []), (25, .ifCond .lt 9, 3, 34, 0, 0, 0, 0, 0, []), (28, .iload_n 3, 1, 0, 0, 0, 0, 0, 0, []), (29, .bipush 24, 2, 0, 0, 0, 0, 24, 0, []), (31, .if_icmp .lt 6, 3, 37, 0, 0, 0, 0, 0, []), (34, .ldc 75, 2, 0, 0, 282, 0, (-2000002), 0, []), (36, .ireturn, 1, 0, 0, 0, 0, 0, 0, []), (37, .aload_n 0, 1, 0, 0, 0, 0, 0, 0, []), (38, .getfield 12, 3, 4, 0, 215, 1, 0, 0, []), (41, .getfield 150, 3, 3, 3, 93, 1, 0, 0, []), (44, .iload_n 1, 1, 0, 0, 0, 0, 0, 0, []), (45, .iaload, 1, 0, 0, 0, 0, 0, 0, []), (46, .istore 4, 2, 0, 0, 0, 0, 0, 0, []), (48, .aload_n 0, 1, 0, 0, 0, 0, 0, 0, []), (49, .getfield 12, 3, 4, 0, 215, 1, 0, 0, []), (52, .getfield 153, 3, 3, 4, 95, 1, 0, 0, []), (55, .iload_n 1, 1, 0, 0, 0, 0, 0, 0, []), (56, .iaload, 1, 0, 0, 0, 0, 0, 0, []), (57, .istore 5, 2, 0, 0, 0, 0, 0, 0, []), (59, .iload 4, 2, 0, 0, 0, 0, 0, 0, []), (61, .iload_n 2, 1, 0, 0, 0, 0, 0, 0, []), (62, .if_icmp .ne 12, 3, 74, 0, 0, 0, 0, 0, []), (65, .iload 5, 2, 0, 0, 0, 0, 0, 0, []), (67, .iload_n 3, 1, 0, 0, 0, 0, 0, 0, []), (68, .if_icmp .ne 6, 3, 74, 0, 0, 0, 0, 0, []), (71, .ldc 129, 2, 0, 0, 363, 0, (-2000005), 0, []), (73, .ireturn, 1, 0, 0, 0, 0, 0, 0, []), (74, .aload_n 0, 1, 0, 0, 0, 0, 0, 0, []), (75, .getfield 26, 3, 4, 3, 218, 1, 0, 0, []), (78, .aload_n 0, 1, 0, 0, 0, 0, 0, 0, []), (79, .getfield 12, 3, 4, 0, 215, 1, 0, 0, []), (82, .invokevirtual 49, 3, 1, 0, 239, 0, 0, 0, []), (85, .aload_n 0, 1, 0, 0, 0, 0, 0, 0, []), (86, .getfield 12, 3, 4, 0, 215, 1, 0, 0, []), (89, .getfield 150, 3, 3, 3, 93, 1, 0, 0, []), (92, .iload_n 1, 1, 0, 0, 0, 0, 0, 0, []), (93, .iload_n 2, 1, 0, 0, 0, 0, 0, 0, []), (94, .iastore, 1, 0, 0, 0, 0, 0, 0, []), (95, .aload_n 0, 1, 0, 0, 0, 0, 0, 0, []), (96, .getfield 12, 3, 4, 0, 215, 1, 0, 0, []), (99, .getfield 153, 3, 3, 4, 95, 1, 0, 0, []), (102, .iload_n 1, 1, 0, 0, 0, 0, 0, 0, []), (103, .iload_n 3, 1, 0, 0, 0, 0, 0, 0, []), (104, .iastore, 1, 0, 0, 0, 0, 0, 0, []), (105, .iload 4, 2, 0, 0, 0, 0, 0, 0, []), (107, .bipush 100, 2, 0, 0, 0, 0, 100, 0, []), (109, .imul, 1, 0, 0, 0, 0, 0, 0, []), (110, .iload 5, 2, 0, 0, 0, 0, 0, 0, []), (112, .iadd, 1, 0, 0, 0, 0, 0, 0, []), (113, .ireturn, 1, 0, 0, 0, 0, 0, 0, [])]
def am_t61 : List aI := [(0, .iload_n 1, 1, 0, 0, 0, 0, 0, 0, []), (1, .invokestatic 66, 3, 75, 0, 272, 1, 0, 0, []), (4, .ifCond .ne 6, 3, 10, 0, 0, 0, 0, 0, []), (7, .ldc 57, 2, 0, 0, 262, 0, (-2000001), 0, []), (9, .ireturn, 1, 0, 0, 0, 0, 0, 0, []), (10, .iload_n 2, 1, 0, 0, 0, 0, 0, 0, []), (11, .iconst 1, 1, 0, 0, 0, 0, 1, 0, []), (12, .if_icmp .lt 10, 3, 22, 0, 0, 0, 0, 0, []), (15, .iload_n 2, 1, 0, 0, 0, 0, 0, 0, []), (16, .sipush 9999, 3, 0, 0, 0, 0, 9999, 0, []), (19, .if_icmp .le 6, 3, 25, 0, 0, 0, 0, 0, []), (22, .ldc 75, 2, 0, 0, 282, 0, (-2000002), 0, []), (24, .ireturn, 1, 0, 0, 0, 0, 0, 0, []), (25, .aload_n 0, 1, 0, 0, 0, 0, 0, 0, []), (26, .getfield 12, 3, 4, 0, 215, 1, 0, 0, []), (29, .getfield 156, 3, 3, 5, 97, 1, 0, 0, []), (32, .iload_n 1, 1, 0, 0, 0, 0, 0, 0, []), (33, .iaload, 1, 0, 0, 0, 0, 0, 0, []), (34, .istore_n 3, 1, 0, 0, 0, 0, 0, 0, []), (35, .iload_n 3, 1, 0, 0, 0, 0, 0, 0, []), (36, .iload_n 2, 1, 0, 0, 0, 0, 0, 0, []), (37, .if_icmp .ne 6, 3, 43, 0, 0, 0, 0, 0, []), (40, .ldc 129, 2, 0, 0, 363, 0, (-2000005), 0, []), (42, .ireturn, 1, 0, 0, 0, 0, 0, 0, []), (43, .aload_n 0, 1, 0, 0, 0, 0, 0, 0, []), (44, .getfield 26, 3, 4, 3, 218, 1, 0, 0, []), (47, .aload_n 0, 1, 0, 0, 0, 0, 0, 0, []), (48, .getfield 12, 3, 4, 0, 215, 1, 0, 0, []), (51, .invokevirtual 49, 3, 1, 0, 239, 0, 0, 0, []), (54, .aload_n 0, 1, 0, 0, 0, 0, 0, 0, []), (55, .getfield 12, 3, 4, 0, 215, 1, 0, 0, []), (58, .getfield 156, 3, 3, 5, 97, 1, 0, 0, []), (61, .iload_n 1, 1, 0, 0, 0, 0, 0, 0, []), (62, .iload_n 2, 1, 0, 0, 0, 0, 0, 0, []), (63, .iastore, 1, 0, 0, 0, 0, 0, 0, []), (64, .iload_n 3, 1, 0, 0, 0, 0, 0, 0, []), (65, .ireturn, 1, 0, 0, 0, 0, 0, 0, [])]
def am_t62 : List aI := [(0, .aload_n 0, 1, 0, 0, 0, 0, 0, 0, []), (1, .getfield 33, 3, 4, 4, 219, 1, 0, 0, []), (4, .getfield 159, 3, 1, 1, 159, 0, 0, 0, []), (7, .bipush 60, 2, 0, 0, 0, 0, 60, 0, []), (9, .if_icmp .lt 6, 3, 15, 0, 0, 0, 0, 0, []), (12, .ldc 48, 2, 0, 0, 238, 0, (-2000003), 0, []), (14, .ireturn, 1, 0, 0, 0, 0, 0, 0, []), (15, .aload_n 0, 1, 0, 0, 0, 0, 0, 0, []), (16, .getfield 33, 3, 4, 4, 219, 1, 0, 0, []), (19, .getfield 162, 3, 1, 0, 157, 1, 0, 0, []), (22, .aload_n 0, 1, 0, 0, 0, 0, 0, 0, []), (23, .getfield 33, 3, 4, 4, 219, 1, 0, 0, []), (26, .getfield 159, 3, 1, 1, 159, 0, 0, 0, []), (29, .iload_n 1, 1, 0, 0, 0, 0, 0, 0, []), (30, .castore, 1, 0, 0, 0, 0, 0, 0, []), (31, .aload_n 0, 1, 0, 0, 0, 0, 0, 0, []), (32, .getfield 33, 3, 4, 4, 219, 1, 0, 0, []), (35, .dup, 1, 0, 0, 0, 0, 0, 0, []), (36, .getfield 159, 3, 1, 1, 159, 0, 0, 0, []), (39, .iconst 1, 1, 0, 0, 0, 0, 1, 0, []), (40, .iadd, 1, 0, 0, 0, 0, 0, 0, []), (41, .putfield 159, 3, 1, 1, 159, 0, 0, 0, []), (44, .aload_n 0, 1, 0, 0, 0, 0, 0, 0, []), (45, .getfield 33, 3, 4, 4, 219, 1, 0, 0, []), (48, .getfield 159, 3, 1, 1, 159, 0, 0, 0, []), (51, .ireturn, 1, 0, 0, 0, 0, 0, 0, [])]
def am_t63 : List aI := [(0, .aload_n 0, 1, 0, 0, 0, 0, 0, 0, []), (1, .getfield 33, 3, 4, 4, 219, 1, 0, 0, []), (4, .getfield 159, 3, 1, 1, 159, 0, 0, 0, []), (7, .istore_n 1, 1, 0, 0, 0, 0, 0, 0, []), (8, .aload_n 0, 1, 0, 0, 0, 0, 0, 0, []), (9, .getfield 33, 3, 4, 4, 219, 1, 0, 0, []), (12, .iconst 0, 1, 0, 0, 0, 0, 0, 0, []), (13, .putfield 159, 3, 1, 1, 159, 0, 0, 0, []), (16, .iload_n 1, 1, 0, 0, 0, 0, 0, 0, []), (17, .ireturn, 1, 0, 0, 0, 0, 0, 0, [])]
def am_t64 : List aI := [(0, .aload_n 0, 1, 0, 0, 0, 0, 0, 0, []), (1, .getfield 26, 3, 4, 3, 218, 1, 0, 0, []), (4, .getfield 166, 3, 0, 1, 144, 0, 0, 0, []), (7, .ifCond .ne 6, 3, 13, 0, 0, 0, 0, 0, []), (10, .ldc 129, 2, 0, 0, 363, 0, (-2000005), 0, []), (12, .ireturn, 1, 0, 0, 0, 0, 0, 0, []), (13, .aload_n 0, 1, 0, 0, 0, 0, 0, 0, []), (14, .getfield 26, 3, 4, 3, 218, 1, 0, 0, []), (17, .aload_n 0, 1, 0, 0, 0, 0, 0, 0, []), (18, .getfield 12, 3, 4, 0, 215, 1, 0, 0, []), (21, .invokevirtual 169, 3, 2, 0, 469, 0, 0, 0, []), (24, .aload_n 0, 1, 0, 0, 0, 0, 0, 0, []), (25, .getfield 26, 3, 4, 3, 218, 1, 0, 0, []), (28, .getfield 166, 3, 0, 1, 144, 0, 0, 0, []), (31, .ireturn, 1, 0, 0, 0, 0, 0, 0, [])]
def am_t65 : List aI := [(0, .aload_n 0, 1, 0, 0, 0, 0, 0, 0, []), (1, .getfield 16, 3, 4, 1, 216, 1, 0, 0, []), (4, .aload_n 0, 1, 0, 0, 0, 0, 0, 0, []), (5, .getfield 12, 3, 4, 0, 215, 1, 0, 0, []), (8, .invokevirtual 172, 3, 31, 3, 477, 0, 0, 0, []), (11, .aload_n 0, 1, 0, 0, 0, 0, 0, 0, []), (12, .iconst 1, 1, 0, 0, 0, 0, 1, 0, []), (13, .putfield 19, 3, 4, 2, 217, 2, 0, 0, []), (16, .aload_n 0, 1, 0, 0, 0, 0, 0, 0, []), (17, .getfield 12, 3, 4, 0, 215, 1, 0, 0, []), (20, .getfield 44, 3, 3, 0, 86, 0, 0, 0, []), (23, .ireturn, 1, 0, 0, 0, 0, 0, 0, [])]
def am_t66 : List aI := [(0, .aload_n 0, 1, 0, 0, 0, 0, 0, 0, []), (1, .getfield 19, 3, 4, 2, 217, 2, 0, 0, []), (4, .ifCond .ne 6, 3, 10, 0, 0, 0, 0, 0, []), (7, .ldc 129, 2, 0, 0, 363, 0, (-2000005), 0, []), (9, .ireturn, 1, 0, 0, 0, 0, 0, 0, []), (10, .aload_n 0, 1, 0, 0, 0, 0, 0, 0, []), (11, .getfield 26, 3, 4, 3, 218, 1, 0, 0, []), (14, .aload_n 0, 1, 0, 0, 0, 0, 0, 0, []), (15, .getfield 12, 3, 4, 0, 215, 1, 0, 0, []), (18, .invokevirtual 49, 3, 1, 0, 239, 0, 0, 0, []), (21, .aload_n 0, 1, 0, 0, 0, 0, 0, 0, []), (22, .getfield 12, 3, 4, 0, 215, 1, 0, 0, []), (25, .aload_n 0, 1, 0, 0, 0, 0, 0, 0, []), (26, .getfield 16, 3, 4, 1, 216, 1, 0, 0, []), (29, .invokevirtual 172, 3, 31, 3, 477, 0, 0, 0, []), (32, .aload_n 0, 1, 0, 0, 0, 0, 0, 0, []), (33, .getfield 12, 3, 4, 0, 215, 1, 0, 0, []), (36, .getfield 44, 3, 3, 0, 86, 0, 0, 0, []), (39, .ireturn, 1, 0, 0, 0, 0, 0, 0, [])]
def am_t67 : List aI := [(0, .aload_n 0, 1, 0, 0, 0, 0, 0, 0, []), (1, .getfield 12, 3, 4, 0, 215, 1, 0, 0, []), (4, .iload_n 1, 1, 0, 0, 0, 0, 0, 0, []), (5, .iload_n 2, 1, 0, 0, 0, 0, 0, 0, []), (6, .invokevirtual 62, 3, 33, 3, 267, 1, 0, 0, []), (9, .ifCond .ne 6, 3, 15, 0, 0, 0, 0, 0, []), (12, .ldc 57, 2, 0, 0, 262, 0, (-2000001), 0, []), (14, .ireturn, 1, 0, 0, 0, 0, 0, 0, []), (15, .iload_n 3, 1, 0, 0, 0, 0, 0, 0, []), (16, .invokestatic 69, 3, 76, 0, 275, 1, 0, 0, []), (19, .ifCond .eq 19, 3, 38, 0, 0, 0, 0, 0, []), (22, .iload 4, 2, 0, 0, 0, 0, 0, 0, []), (24, .ifCond .lt 14, 3, 38, 0, 0, 0, 0, 0, []), (27, .iload 5, 2, 0, 0, 0, 0, 0, 0, []), (29, .ifCond .lt 9, 3, 38, 0, 0, 0, 0, 0, []), (32, .iload 5, 2, 0, 0, 0, 0, 0, 0, []), (34, .iconst 3, 1, 0, 0, 0, 0, 3, 0, []), (35, .if_icmp .le 6, 3, 41, 0, 0, 0, 0, 0, []), (38, .ldc 75, 2, 0, 0, 282, 0, (-2000002), 0, []), (40, .ireturn, 1, 0, 0, 0, 0, 0, 0, []), (41, .iload_n 1, 1, 0, 0, 0, 0, 0, 0, []), (42, .iload_n 2, 1, 0, 0, 0, 0, 0, 0, []), (43, .iload_n 3, 1, 0, 0, 0, 0, 0, 0, []), (44, .invokestatic 76, 3, 78, 0, 283, 1, 0, 0, []), (47, .istore 6, 2, 0, 0, 0, 0, 0, 0, []), (49, .iload 4, 2, 0, 0, 0, 0, 0, 0, []), (51, .aload_n 0, 1, 0, 0, 0, 0, 0, 0, []), (52, .getfield 12, 3, 4, 0, 215, 1, 0, 0, []), (55, .getfield 88, 3, 3, 6, 99, 1, 0, 0, []), (58, .iload 6, 2, 0, 0, 0, 0, 0, 0, []), (60, .iaload, 1, 0, 0, 0, 0, 0, 0, []), (61, .if_icmp .lt 6, 3, 67, 0, 0, 0, 0, 0, []), (64, .ldc 129, 2, 0, 0, 363, 0, (-2000005), 0, []), (66, .ireturn, 1, 0, 0, 0, 0, 0, 0, []), (67, .iload 6, 2, 0, 0, 0, 0, 0, 0, []), (69, .bipush 6, 2, 0, 0, 0, 0, 6, 0, []), (71, .imul, 1, 0, 0, 0, 0, 0, 0, []), (72, .iload 4, 2, 0, 0, 0, 0, 0, 0, []), (74, .iadd, 1, 0, 0, 0, 0, 0, 0, []), (75, .istore 7, 2, 0, 0, 0, 0, 0, 0, []), (77, .iload 5, 2, 0, 0, 0, 0, 0, 0, []), (79, .tableswitch 66 0 2 #[25, 36, 47], 25, 145, 0, 0, 0, 0, 0, [(0, 104), (1, 115), (2, 126)]), (104, .aload_n 0, 1, 0, 0, 0, 0, 0, 0, []), (105, .getfield 12, 3, 4, 0, 215, 1, 0, 0, []), (108, .getfield 175, 3, 3, 8, 103, 1, 0, 0, []), (111, .iload 7, 2, 0, 0, 0, 0, 0, 0, []), (113, .iaload, 1, 0, 0, 0, 0, 0, 0, []), (114, .ireturn, 1, 0, 0, 0, 0, 0, 0, []), (115, .aload_n 0, 1, 0, 0, 0, 0, 0, 0, []), (116, .getfield 12, 3, 4, 0, 215, 1, 0, 0, []), (119, .getfield 176, 3, 3, 9, 105, 1, 0, 0, []), (122, .iload 7, 2, 0, 0, 0, 0, 0, 0, []), (124, .iaload, 1, 0, 0, 0, 0, 0, 0, []), (125, .ireturn, 1, 0, 0, 0, 0, 0, 0, []), (126, .aload_n 0, 1, 0, 0, 0, 0, 0, 0, []), (127, .getfield 12, 3, 4, 0, 215, 1, 0, 0, []), (130, .getfield 125, 3, 3, 10, 107, 1, 0, 0, []), (133, .iload 7, 2, 0, 0, 0, 0, 0, 0, []), (135, .baload, 1, 0, 0, 0, 0, 0, 0, []), (136, .ifCond .eq 7, 3, 143, 0, 0, 0, 0, 0, []), (139, .iconst 1, 1, 0, 0, 0, 0, 1, 0, []), (140, .goto 4, 3, 144, 0, 0, 0, 0, 0, []), (143, .iconst 0, 1, 0, 0, 0, 0, 0, 0, []), (144, .ireturn, 1, 0, 0, 0, 0, 0, 0, []), (145, .aload_n 0, 1, 0, 0, 0, 0, 0, 0, []), (146, .getfield 12, 3, 4, 0, 215, 1, 0, 0, []), (149, .iload 6, 2, 0, 0, 0, 0, 0, 0, []), (151, .iload 4, 2, 0, 0, 0, 0, 0, 0, []), (153, .invokevirtual 177, 3, 41, 3, 486, 1, 0, 0, []), (156, .ireturn, 1, 0, 0, 0, 0, 0, 0, [])]
def am_t68 : List aI := [(0, .aload_n 0, 1, 0, 0, 0, 0, 0, 0, []), (1, .getfield 12, 3, 4, 0, 215, 1, 0, 0, []), (4, .iload_n 1, 1, 0, 0, 0, 0, 0, 0, []), (5, .iload_n 2, 1, 0, 0, 0, 0, 0, 0, []), (6, .invokevirtual 62, 3, 33, 3, 267, 1, 0, 0, []), (9, .ifCond .ne 6, 3, 15, 0, 0, 0, 0, 0, []), (12, .ldc 57, 2, 0, 0, 262, 0, (-2000001), 0, []), (14, .ireturn, 1, 0, 0, 0, 0, 0, 0, []), (15, .iload_n 3, 1, 0, 0, 0, 0, 0, 0, []), (16, .ifCond .lt 9, 3, 25, 0, 0, 0, 0, 0, []), (19, .iload_n 3, 1, 0, 0, 0, 0, 0, 0, []), (20, .bipush 7, 2, 0, 0, 0, 0, 7, 0, []), (22, .if_icmp .le 6, 3, 28, 0, 0, 0, 0, 0, []), (25, .ldc 75, 2, 0, 0, 282, 0, (-2000002), 0, []), (27, .ireturn, 1, 0, 0, 0, 0, 0, 0, []), (28, .aload_n 0, 1, 0, 0, 0, 0, 0, 0, []), (29, .getfield 40, 3, 4, 5, 220, 1, 0, 0, []), (32, .aload_n 0, 1, 0, 0, 0, 0, 0, 0, []), (33, .getfield 12, 3, 4, 0, 215, 1, 0, 0, []), (36, .iload_n 1, 1, 0, 0, 0, 0, 0, 0, []), (37, .invokevirtual 137, 3, 14, 2, 385, 0, 0, 0, []), (40, .iload_n 3, 1, 0, 0, 0, 0, 0, 0, []), (41, .tableswitch 100 0 6 #[43, 43, 58, 58, 71, 81, 91], 43, 141, 0, 0, 0, 0, 0, [(0, 84), (1, 84), (2, 99), (3, 99), (4, 112), (5, 122), (6, 132)]), (84, .aload_n 0, 1, 0, 0, 0, 0, 0, 0, []), (85, .getfield 12, 3, 4, 0, 215, 1, 0, 0, []), (88, .getfield 88, 3, 3, 6, 99, 1, 0, 0, []), (91, .iload_n 1, 1, 0, 0, 0, 0, 0, 0, []), (92, .iload_n 2, 1, 0, 0, 0, 0, 0, 0, []), (93, .iload_n 3, 1, 0, 0, 0, 0, 0, 0, []), (94, .invokestatic 76, 3, 78, 0, 283, 1, 0, 0, []), (97, .iaload, 1, 0, 0, 0, 0, 0, 0, []), (98, .ireturn, 1, 0, 0, 0, 0, 0, 0, []), (99, .aload_n 0, 1, 0, 0, 0, 0, 0, 0, []), (100, .iload_n 1, 1, 0, 0, 0, 0, 0, 0, []), (101, .iload_n 2, 1, 0, 0, 0, 0, 0, 0, []), (102, .iload_n 3, 1, 0, 0, 0, 0, 0, 0, []), (103, .iconst 2, 1, 0, 0, 0, 0, 2, 0, []), (104, .isub, 1, 0, 0, 0, 0, 0, 0, []), (105, .invokestatic 76, 3, 78, 0, 283, 1, 0, 0, []), (108, .invokevirtual 180, 3, 81, 4, 491, 1, 0, 0, []), (111, .ireturn, 1, 0, 0, 0, 0, 0, 0, []), (112, .aload_n 0, 1, 0, 0, 0, 0, 0, 0, []), (113, .getfield 40, 3, 4, 5, 220, 1, 0, 0, []), (116, .getfield 183, 3, 2, 1, 193, 1, 0, 0, []), (119, .iload_n 2, 1, 0, 0, 0, 0, 0, 0, []), (120, .iaload, 1, 0, 0, 0, 0, 0, 0, []), (121, .ireturn, 1, 0, 0, 0, 0, 0, 0, []), (122, .aload_n 0, 1, 0, 0, 0, 0, 0, 0, []), (123, .getfield 12, 3, 4, 0, 215, 1, 0, 0, []), (126, .iload_n 1, 1, 0, 0, 0, 0, 0, 0, []), (127, .iload_n 2, 1, 0, 0, 0, 0, 0, 0, []), (128, .invokevirtual 130, 3, 45, 3, 364, 1, 0, 0, []), (131, .ireturn, 1, 0, 0, 0, 0, 0, 0, []), (132, .aload_n 0, 1, 0, 0, 0, 0, 0, 0, []), (133, .getfield 40, 3, 4, 5, 220, 1, 0, 0, []), (136, .iload_n 2, 1, 0, 0, 0, 0, 0, 0, []), (137, .invokevirtual 186, 3, 25, 2, 495, 1, 0, 0, []), (140, .ireturn, 1, 0, 0, 0, 0, 0, 0, []), (141, .aload_n 0, 1, 0, 0, 0, 0, 0, 0, []), (142, .getfield 40, 3, 4, 5, 220, 1, 0, 0, []), (145, .iload_n 2, 1, 0, 0, 0, 0, 0, 0, []), (146, .aload_n 0, 1, 0, 0, 0, 0, 0, 0, []), (147, .getfield 12, 3, 4, 0, 215, 1, 0, 0, []), (150, .getfield 141, 3, 3, 1, 88, 0, 0, 0, []), (153, .invokevirtual 189, 3, 23, 2, 506, 1, 0, 0, []), (156, .ireturn, 1, 0, 0, 0, 0, 0, 0, [])]
def am_t69 : List aI := [(0, .aload_n 0, 1, 0, 0, 0, 0, 0, 0, []), (1, .getfield 12, 3, 4, 0, 215, 1, 0, 0, []), (4, .iload_n 1, 1, 0, 0, 0, 0, 0, 0, []), (5, .iload_n 2, 1, 0, 0, 0, 0, 0, 0, []), (6, .invokevirtual 62, 3, 33, 3, 267, 1, 0, 0, []), (9, .ifCond .eq 10, 3, 19, 0, 0, 0, 0, 0, []), (12, .iload_n 3, 1, 0, 0, 0, 0, 0, 0, []), (13, .invokestatic 66, 3, 75, 0, 272, 1, 0, 0, []), (16, .ifCond .ne 6, 3, 22, 0, 0, 0, 0, 0, []), (19, .ldc 57, 2, 0, 0, 262, 0, (-2000001), 0, []), (21, .ireturn, 1, 0, 0, 0, 0, 0, 0, []), (22, .iload 4, 2, 0, 0, 0, 0, 0, 0, []), (24, .ifCond .lt 9, 3, 33, 0, 0, 0, 0, 0, []), (27, .iload 4, 2, 0, 0, 0, 0, 0, 0, []), (29, .iconst 3, 1, 0, 0, 0, 0, 3, 0, []), (30, .if_icmp .le 6, 3, 36, 0, 0, 0, 0, 0, []), (33, .ldc 75, 2, 0, 0, 282, 0, (-2000002), 0, []), (35, .ireturn, 1, 0, 0, 0, 0, 0, 0, []), (36, .iload 4, 2, 0, 0, 0, 0, 0, 0, []), (38, .iconst 3, 1, 0, 0, 0, 0, 3, 0, []), (39, .if_icmp .ne 14, 3, 53, 0, 0, 0, 0, 0, []), (42, .aload_n 0, 1, 0, 0, 0, 0, 0, 0, []), (43, .getfield 12, 3, 4, 0, 215, 1, 0, 0, []), (46, .iload_n 1, 1, 0, 0, 0, 0, 0, 0, []), (47, .iload_n 2, 1, 0, 0, 0, 0, 0, 0, []), (48, .iload_n 3, 1, 0, 0, 0, 0, 0, 0, []), (49, .invokevirtual 192, 3, 42, 3, 514, 1, 0, 0, []), (52, .ireturn, 1, 0, 0, 0, 0, 0, 0, []), (53, .aload_n 0, 1, 0, 0, 0, 0, 0, 0, []), (54, .getfield 40, 3, 4, 5, 220, 1, 0, 0, []), (57, .aload_n 0, 1, 0, 0, 0, 0, 0, 0, []), (58, .getfield 12, 3, 4, 0, 215, 1, 0, 0, []), (61, .iload_n 1, 1, 0, 0, 0, 0, 0, 0, []), (62, .invokevirtual 137, 3, 14, 2, 385, 0, 0, 0, []), (65, .aload_n 0, 1, 0, 0, 0, 0, 0, 0, []), (66, .getfield 40, 3, 4, 5, 220, 1, 0, 0, []), (69, .iload_n 2, 1, 0, 0, 0, 0, 0, 0, []), (70, .iload_n 3, 1, 0, 0, 0, 0, 0, 0, []), (71, .invokevirtual 195, 3, 18, 2, 515, 1, 0, 0, []), (74, .ifCond .ne 6, 3, 80, 0, 0, 0, 0, 0, []), (77, .ldc 129, 2, 0, 0, 363, 0, (-2000005), 0, []), (79, .ireturn, 1, 0, 0, 0, 0, 0, 0, []), (80, .iload_n 2, 1, 0, 0, 0, 0, 0, 0, []), (81, .bipush 6, 2, 0, 0, 0, 0, 6, 0, []), (83, .imul, 1, 0, 0, 0, 0, 0, 0, []), (84, .iload_n 3, 1, 0, 0, 0, 0, 0, 0, []), (85, .iadd, 1, 0, 0, 0, 0, 0, 0, []), (86, .istore 5, 2, 0, 0, 0, 0, 0, 0, []), (88, .iload 4, 2, 0, 0, 0, 0, 0, 0, []), (90, .lookupswitch 48 #[(0, 26), (1, 37)], 26, 138, 0, 0, 0, 0, 0, [(0, 116), (1, 127)]), (116, .aload_n 0, 1, 0, 0, 0, 0, 0, 0, []), (117, .getfield 40, 3, 4, 5, 220, 1, 0, 0, []), (120, .getfield 198, 3, 2, 2, 195, 1, 0, 0, []), (123, .iload 5, 2, 0, 0, 0, 0, 0, 0, []), (125, .iaload, 1, 0, 0, 0, 0, 0, 0, []), (126, .ireturn, 1, 0, 0, 0, 0, 0, 0, []), (127, .aload_n 0, 1, 0, 0, 0, 0, 0, 0, []), (128, .getfield 40, 3, 4, 5, 220, 1, 0, 0, []), (131, .getfield 201, 3, 2, 4, 199, 1, 0, 0, []), (134, .iload 5, 2, 0, 0, 0, 0, 0, 0, []), (136, .iaload, 1, 0, 0, 0, 0, 0, 0, []), (137, .ireturn, 1, 0, 0, 0, 0, 0, 0, []), (138, .aload_n 0, 1, 0, 0, 0, 0, 0, 0, []), (139, .getfield 40, 3, 4, 5, 220, 1, 0, 0, []), (142, .getfield 204, 3, 2, 3, 197, 1, 0, 0, []), (145, .iload 5, 2, 0, 0, 0, 0, 0, 0, []), (147, .iaload, 1, 0, 0, 0, 0, 0, 0, []), (148, .ireturn, 1, 0, 0, 0, 0, 0, 0, [])]
def am_t70 : List aI := [(0, .aload_n 0, 1, 0, 0, 0, 0, 0, 0, []), (1, .getfield 12, 3, 4, 0, 215, 1, 0, 0, []), (4, .iload_n 1, 1, 0, 0, 0, 0, 0, 0, []), (5, .invokevirtual 53, 3, 32, 3, 258, 1, 0, 0, []), (8, .ifCond .eq 10, 3, 18, 0, 0, 0, 0, 0, []), (11, .iload_n 2, 1, 0, 0, 0, 0, 0, 0, []), (12, .invokestatic 66, 3, 75, 0, 272, 1, 0, 0, []), (15, .ifCond .ne 6, 3, 21, 0, 0, 0, 0, 0, []), (18, .ldc 57, 2, 0, 0, 262, 0, (-2000001), 0, []), (20, .ireturn, 1, 0, 0, 0, 0, 0, 0, []), (21, .iload_n 3, 1, 0, 0, 0, 0, 0, 0, []), (22, .ifCond .lt 8, 3, 30, 0, 0, 0, 0, 0, []), (25, .iload_n 3, 1, 0, 0, 0, 0, 0, 0, []), (26, .iconst 4, 1, 0, 0, 0, 0, 4, 0, []), (27, .if_icmp .le 6, 3, 33, 0, 0, 0, 0, 0, []), (30, .ldc 75, 2, 0, 0, 282, 0, (-2000002), 0, []), (32, .ireturn, 1, 0, 0, 0, 0, 0, 0, []), (33, .aload_n 0, 1, 0, 0, 0, 0, 0, 0, []), (34, .getfield 40, 3, 4, 5, 220, 1, 0, 0, []), (37, .aload_n 0, 1, 0, 0, 0, 0, 0, 0, []), (38, .getfield 12, 3, 4, 0, 215, 1, 0, 0, []), (41, .iload_n 1, 1, 0, 0, 0, 0, 0, 0, []), (42, .invokevirtual 137, 3, 14, 2, 385, 0, 0, 0, []), (45, .iload_n 3, 1, 0, 0, 0, 0, 0, 0, []), (46, .iconst 4, 1, 0, 0, 0, 0, 4, 0, []), (47, .if_icmp .ne 12, 3, 59, 0, 0, 0, 0, 0, []), (50, .aload_n 0, 1, 0, 0, 0, 0, 0, 0, []), (51, .getfield 40, 3, 4, 5, 220, 1, 0, 0, []), (54, .iload_n 2, 1, 0, 0, 0, 0, 0, 0, []), (55, .invokevirtual 207, 3, 20, 2, 520, 1, 0, 0, []), (58, .ireturn, 1, 0, 0, 0, 0, 0, 0, []), (59, .aload_n 0, 1, 0, 0, 0, 0, 0, 0, []), (60, .getfield 40, 3, 4, 5, 220, 1, 0, 0, []), (63, .iload_n 2, 1, 0, 0, 0, 0, 0, 0, []), (64, .invokevirtual 210, 3, 19, 2, 524, 1, 0, 0, []), (67, .ifCond .ne 6, 3, 73, 0, 0, 0, 0, 0, []), (70, .ldc 129, 2, 0, 0, 363, 0, (-2000005), 0, []), (72, .ireturn, 1, 0, 0, 0, 0, 0, 0, []), (73, .iload_n 3, 1, 0, 0, 0, 0, 0, 0, []), (74, .tableswitch 50 0 2 #[26, 36, 43], 26, 124, 0, 0, 0, 0, 0, [(0, 100), (1, 110), (2, 117)]), (100, .aload_n 0, 1, 0, 0, 0, 0, 0, 0, []), (101, .getfield 40, 3, 4, 5, 220, 1, 0, 0, []), (104, .getfield 213, 3, 2, 5, 201, 1, 0, 0, []), (107, .iload_n 2, 1, 0, 0, 0, 0, 0, 0, []), (108, .iaload, 1, 0, 0, 0, 0, 0, 0, []), (109, .ireturn, 1, 0, 0, 0, 0, 0, 0, []), (110, .aload_n 0, 1, 0, 0, 0, 0, 0, 0, []), (111, .iload_n 1, 1, 0, 0, 0, 0, 0, 0, []), (112, .iload_n 2, 1, 0, 0, 0, 0, 0, 0, []), (113, .invokevirtual 216, 3, 83, 4, 528, 1, 0, 0, []), (116, .ireturn, 1, 0, 0, 0, 0, 0, 0, []), (117, .aload_n 0, 1, 0, 0, 0, 0, 0, 0, []), (118, .iload_n 1, 1, 0, 0, 0, 0, 0, 0, []), (119, .iload_n 2, 1, 0, 0, 0, 0, 0, 0, []), (120, .invokevirtual 219, 3, 84, 4, 538, 1, 0, 0, []), (123, .ireturn, 1, 0, 0, 0, 0, 0, 0, []), (124, .aload_n 0, 1, 0, 0, 0, 0, 0, 0, []), (125, .getfield 40, 3, 4, 5, 220, 1, 0, 0, []), (128, .iload_n 2, 1, 0, 0, 0, 0, 0, 0, []), (129, .invokevirtual 222, 3, 22, 2, 542, 1, 0, 0, []), (132, .ireturn, 1, 0, 0, 0, 0, 0, 0, [])]
def am_t71 : List aI := [(0, .aload_n 0, 1, 0, 0, 0, 0, 0, 0, []), (1, .getfield 12, 3, 4, 0, 215, 1, 0, 0, []), (4, .iload_n 1, 1, 0, 0, 0, 0, 0, 0, []), (5, .invokevirtual 53, 3, 32, 3, 258, 1, 0, 0, []), (8, .ifCond .eq 17, 3, 25, 0, 0, 0, 0, 0, []), (11, .iload_n 2, 1, 0, 0, 0, 0, 0, 0, []), (12, .invokestatic 66, 3, 75, 0, 272, 1, 0, 0, []), (15, .ifCond .eq 10, 3, 25, 0, 0, 0, 0, 0, []), (18, .iload_n 3, 1, 0, 0, 0, 0, 0, 0, []), (19, .invokestatic 66, 3, 75, 0, 272, 1, 0, 0, []), (22, .ifCond .ne 6, 3, 28, 0, 0, 0, 0, 0, []), (25, .ldc 57, 2, 0, 0, 262, 0, (-2000001), 0, []), (27, .ireturn, 1, 0, 0, 0, 0, 0, 0, []), (28, .aload_n 0, 1, 0, 0, 0, 0, 0, 0, []), (29, .getfield 40, 3, 4, 5, 220, 1, 0, 0, []), (32, .aload_n 0, 1, 0, 0, 0, 0, 0, 0, []), (33, .getfield 12, 3, 4, 0, 215, 1, 0, 0, []), (36, .iload_n 1, 1, 0, 0, 0, 0, 0, 0, []), (37, .invokevirtual 137, 3, 14, 2, 385, 0, 0, 0, []), (40, .aload_n 0, 1, 0, 0, 0, 0, 0, 0, []), (41, .getfield 40, 3, 4, 5, 220, 1, 0, 0, []), (44, .iload_n 2, 1, 0, 0, 0, 0, 0, 0, []), (45, .invokevirtual 210, 3, 19, 2, 524, 1, 0, 0, []), (48, .ifCond .eq 14, 3, 62, 0, 0, 0, 0, 0, []), (51, .aload_n 0, 1, 0, 0, 0, 0, 0, 0, []), (52, .getfield 40, 3, 4, 5, 220, 1, 0, 0, []), (55, .iload_n 3, 1, 0, 0, 0, 0, 0, 0, []), (56, .invokevirtual 210, 3, 19, 2, 524, 1, 0, 0, []), (59, .ifCond .ne 6, 3, 65, 0, 0, 0, 0, 0, []), (62, .ldc 129, 2, 0, 0, 363, 0, (-2000005), 0, []), (64, .ireturn, 1, 0, 0, 0, 0, 0, 0, []), (65, .iload 4, 2, 0, 0, 0, 0, 0, 0, []), (67, .ifCond .eq 22, 3, 89, 0, 0, 0, 0, 0, []), (70, .aload_n 0, 1, 0, 0, 0, 0, 0, 0, []), (71, .iload_n 1, 1, 0, 0, 0, 0, 0, 0, []), (72, .iload_n 3, 1, 0, 0, 0, 0, 0, 0, []), (73, .invokevirtual 219, 3, 84, 4, 538, 1, 0, 0, []), (76, .aload_n 0, 1, 0, 0, 0, 0, 0, 0, []), (77, .iload_n 1, 1, 0, 0, 0, 0, 0, 0, []), (78, .iload_n 2, 1, 0, 0, 0, 0, 0, 0, []), (79, .invokevirtual 219, 3, 84, 4, 538, 1, 0, 0, []), (82, .isub, 1, 0, 0, 0, 0, 0, 0, []), (83, .ldc 225, 2, 0, 0, 281, 0, 1296000, 0, []), (85, .invokestatic 226, 3, 160, 0, 533, 1, 0, 0, []), (88, .ireturn, 1, 0, 0, 0, 0, 0, 0, []), (89, .aload_n 0, 1, 0, 0, 0, 0, 0, 0, []), (90, .getfield 40, 3, 4, 5, 220, 1, 0, 0, []), (93, .iload_n 2, 1, 0, 0, 0, 0, 0, 0, []), (94, .iload_n 3, 1, 0, 0, 0, 0, 0, 0, []), (95, .invokevirtual 231, 3, 26, 2, 553, 1, 0, 0, []), (98, .ireturn, 1, 0, 0, 0, 0, 0, 0, [])]
def am_t72 : List aI := [(0, .aload_n 0, 1, 0, 0, 0, 0, 0, 0, []), (1, .getfield 12, 3, 4, 0, 215, 1, 0, 0, []), (4, .iload_n 1, 1, 0, 0, 0, 0, 0, 0, []), (5, .invokevirtual 53, 3, 32, 3, 258, 1, 0, 0, []), (8, .ifCond .eq 10, 3, 18, 0, 0, 0, 0, 0, []), (11, .iload_n 2, 1, 0, 0, 0, 0, 0, 0, []), (12, .invokestatic 66, 3, 75, 0, 272, 1, 0, 0, []), (15, .ifCond .ne 6, 3, 21, 0, 0, 0, 0, 0, []), (18, .ldc 57, 2, 0, 0, 262, 0, (-2000001), 0, []), (20, .ireturn, 1, 0, 0, 0, 0, 0, 0, []), (21, .aload_n 0, 1, 0, 0, 0, 0, 0, 0, []), (22, .getfield 40, 3, 4, 5, 220, 1, 0, 0, []), (25, .aload_n 0, 1, 0, 0, 0, 0, 0, 0, []), (26, .getfield 12, 3, 4, 0, 215, 1, 0, 0, []), (29, .iload_n 1, 1, 0, 0, 0, 0, 0, 0, []), (30, .invokevirtual 137, 3, 14, 2, 385, 0, 0, 0, []), (33, .aload_n 0, 1, 0, 0, 0, 0, 0, 0, []), (34, .getfield 40, 3, 4, 5, 220, 1, 0, 0, []), (37, .iload_n 2, 1, 0, 0, 0, 0, 0, 0, []), (38, .invokevirtual 210, 3, 19, 2, 524, 1, 0, 0, []), (41, .ifCond .ne 6, 3, 47, 0, 0, 0, 0, 0, []), (44, .ldc 129, 2, 0, 0, 363, 0, (-2000005), 0, []), (46, .ireturn, 1, 0, 0, 0, 0, 0, 0, []), (47, .aload_n 0, 1, 0, 0, 0, 0, 0, 0, []), (48, .getfield 40, 3, 4, 5, 220, 1, 0, 0, []), (51, .iload_n 2, 1, 0, 0, 0, 0, 0, 0, []), (52, .invokevirtual 234, 3, 27, 2, 561, 1, 0, 0, []), (55, .ireturn, 1, 0, 0, 0, 0, 0, 0, [])]
def am_t73 : List aI := [(0, .iload_n 1, 1, 0, 0, 0, 0, 0, 0, []), (1, .tableswitch 120 0 8 #[51, 59, 67, 75, 83, 88, 96, 104, 112], 51, 121, 0, 0, 0, 0, 0, [(0, 52), (1, 60), (2, 68), (3, 76), (4, 84), (5, 89), (6, 97), (7, 105), (8, 113)]), (52, .aload_n 0, 1, 0, 0, 0, 0, 0, 0, []), (53, .getfield 12, 3, 4, 0, 215, 1, 0, 0, []), (56, .getfield 44, 3, 3, 0, 86, 0, 0, 0, []), (59, .ireturn, 1, 0, 0, 0, 0, 0, 0, []), (60, .aload_n 0, 1, 0, 0, 0, 0, 0, 0, []), (61, .getfield 12, 3, 4, 0, 215, 1, 0, 0, []), (64, .invokevirtual 237, 3, 46, 3, 579, 1, 0, 0, []), (67, .ireturn, 1, 0, 0, 0, 0, 0, 0, []), (68, .aload_n 0, 1, 0, 0, 0, 0, 0, 0, []), (69, .getfield 12, 3, 4, 0, 215, 1, 0, 0, []), (72, .invokevirtual 240, 3, 47, 3, 583, 1, 0, 0, []), (75, .ireturn, 1, 0, 0, 0, 0, 0, 0, []), (76, .aload_n 0, 1, 0, 0, 0, 0, 0, 0, []), (77, .getfield 12, 3, 4, 0, 215, 1, 0, 0, []), (80, .invokevirtual 243, 3, 48, 3, 587, 1, 0, 0, []), (83, .ireturn, 1, 0, 0, 0, 0, 0, 0, []), (84, .aload_n 0, 1, 0, 0, 0, 0, 0, 0, []), (85, .invokevirtual 246, 3, 82, 4, 591, 1, 0, 0, []), (88, .ireturn, 1, 0, 0, 0, 0, 0, 0, []), (89, .aload_n 0, 1, 0, 0, 0, 0, 0, 0, []), (90, .getfield 12, 3, 4, 0, 215, 1, 0, 0, []), (93, .getfield 141, 3, 3, 1, 88, 0, 0, 0, []), (96, .ireturn, 1, 0, 0, 0, 0, 0, 0, []), (97, .aload_n 0, 1, 0, 0, 0, 0, 0, 0, []), (98, .getfield 12, 3, 4, 0, 215, 1, 0, 0, []), (101, .invokevirtual 249, 3, 49, 3, 596, 1, 0, 0, []), (104, .ireturn, 1, 0, 0, 0, 0, 0, 0, []), (105, .aload_n 0, 1, 0, 0, 0, 0, 0, 0, []), (106, .getfield 26, 3, 4, 3, 218, 1, 0, 0, []), (109, .getfield 166, 3, 0, 1, 144, 0, 0, 0, []), (112, .ireturn, 1, 0, 0, 0, 0, 0, 0, []), (113, .aload_n 0, 1, 0, 0, 0, 0, 0, 0, []), (114, .getfield 33, 3, 4, 4, 219, 1, 0, 0, []), (117, .getfield 159, 3, 1, 1, 159, 0, 0, 0, []), (120, .ireturn, 1, 0, 0, 0, 0, 0, 0, []), (121, .ldc 75, 2, 0, 0, 282, 0, (-2000002), 0, []), (123, .ireturn, 1, 0, 0, 0, 0, 0, 0, [])]
def am_t74 : List aI := [(0, .aload_n 0, 1, 0, 0, 0, 0, 0, 0, []), (1, .getfield 12, 3, 4, 0, 215, 1, 0, 0, []), (4, .iload_n 1, 1, 0, 0, 0, 0, 0, 0, []), (5, .invokevirtual 53, 3, 32, 3, 258, 1, 0, 0, []), (8, .ifCond .ne 6, 3, 14, 0, 0, 0, 0, 0, []), (11, .ldc 57, 2, 0, 0, 262, 0, (-2000001), 0, []), (13, .ireturn, 1, 0, 0, 0, 0, 0, 0, []), (14, .iload_n 2, 1, 0, 0, 0, 0, 0, 0, []), (15, .ifCond .eq 15, 3, 30, 0, 0, 0, 0, 0, []), (18, .aload_n 0, 1, 0, 0, 0, 0, 0, 0, []), (19, .getfield 12, 3, 4, 0, 215, 1, 0, 0, []), (22, .getfield 153, 3, 3, 4, 95, 1, 0, 0, []), (25, .iload_n 1, 1, 0, 0, 0, 0, 0, 0, []), (26, .iaload, 1, 0, 0, 0, 0, 0, 0, []), (27, .goto 12, 3, 39, 0, 0, 0, 0, 0, []), (30, .aload_n 0, 1, 0, 0, 0, 0, 0, 0, []), (31, .getfield 12, 3, 4, 0, 215, 1, 0, 0, []), (34, .getfield 150, 3, 3, 3, 93, 1, 0, 0, []), (37, .iload_n 1, 1, 0, 0, 0, 0, 0, 0, []), (38, .iaload, 1, 0, 0, 0, 0, 0, 0, []), (39, .ireturn, 1, 0, 0, 0, 0, 0, 0, [])]
def am_t75 : List aI := [(0, .iload_n 0, 1, 0, 0, 0, 0, 0, 0, []), (1, .ifCond .lt 13, 3, 14, 0, 0, 0, 0, 0, []), (4, .iload_n 0, 1, 0, 0, 0, 0, 0, 0, []), (5, .bipush 6, 2, 0, 0, 0, 0, 6, 0, []), (7, .if_icmp .ge 7, 3, 14, 0, 0, 0, 0, 0, []), (10, .iconst 1, 1, 0, 0, 0, 0, 1, 0, []), (11, .goto 4, 3, 15, 0, 0, 0, 0, 0, []), (14, .iconst 0, 1, 0, 0, 0, 0, 0, 0, []), (15, .ireturn, 1, 0, 0, 0, 1, 0, 0, [])]
def am_t76 : List aI := [(0, .iload_n 0, 1, 0, 0, 0, 0, 0, 0, []), (1, .ifCond .lt 12, 3, 13, 0, 0, 0, 0, 0, []), (4, .iload_n 0, 1, 0, 0, 0, 0, 0, 0, []), (5, .iconst 2, 1, 0, 0, 0, 0, 2, 0, []), (6, .if_icmp .ge 7, 3, 13, 0, 0, 0, 0, 0, []), (9, .iconst 1, 1, 0, 0, 0, 0, 1, 0, []), (10, .goto 4, 3, 14, 0, 0, 0, 0, 0, []), (13, .iconst 0, 1, 0, 0, 0, 0, 0, 0, []), (14, .ireturn, 1, 0, 0, 0, 1, 0, 0, [])]
def am_t77 : List aI := [(0, .iload_n 0, 1, 0, 0, 0, 0, 0, 0, []), (1, .ifCond .lt 13, 3, 14, 0, 0, 0, 0, 0, []), (4, .iload_n 0, 1, 0, 0, 0, 0, 0, 0, []), (5, .ldc 225, 2, 0, 0, 281, 0, 1296000, 0, []), (7, .if_icmp .ge 7, 3, 14, 0, 0, 0, 0, 0, []), (10, .iconst 1, 1, 0, 0, 0, 0, 1, 0, []), (11, .goto 4, 3, 15, 0, 0, 0, 0, 0, []), (14, .iconst 0, 1, 0, 0, 0, 0, 0, 0, []), (15, .ireturn, 1, 0, 0, 0, 1, 0, 0, [])]
def am_t78 : List aI := [(0, .iload_n 0, 1, 0, 0, 0, 0, 0, 0, []), (1, .bipush 6, 2, 0, 0, 0, 0, 6, 0, []), (3, .imul, 1, 0, 0, 0, 0, 0, 0, []), (4, .iload_n 1, 1, 0, 0, 0, 0, 0, 0, []), (5, .iadd, 1, 0, 0, 0, 0, 0, 0, []), (6, .iconst 2, 1, 0, 0, 0, 0, 2, 0, []), (7, .imul, 1, 0, 0, 0, 0, 0, 0, []), (8, .iload_n 2, 1, 0, 0, 0, 0, 0, 0, []), (9, .iadd, 1, 0, 0, 0, 0, 0, 0, []), (10, .ireturn, 1, 0, 0, 0, 0, 0, 0, [])]
def am_t79 : List aI := [(0, .iload_n 0, 1, 0, 0, 0, 0, 0, 0, []), (1, .ldc 225, 2, 0, 0, 281, 0, 1296000, 0, []), (3, .irem, 1, 0, 0, 0, 0, 0, 0, []), (4, .istore_n 1, 1, 0, 0, 0, 0, 0, 0, []), (5, .iload_n 1, 1, 0, 0, 0, 0, 0, 0, []), (6, .ldc 252, 2, 0, 0, 356, 0, 648000, 0, []), (8, .if_icmp .le 8, 3, 16, 0, 0, 0, 0, 0, []), (11, .iload_n 1, 1, 0, 0, 0, 0, 0, 0, []), (12, .ldc 225, 2, 0, 0, 281, 0, 1296000, 0, []), (14, .isub, 1, 0, 0, 0, 0, 0, 0, []), (15, .ireturn, 1, 0, 0, 0, 0, 0, 0, []), (16, .iload_n 1, 1, 0, 0, 0, 0, 0, 0, []), (17, .ldc 253, 2, 0, 0, 357, 0, (-648000), 0, []), (19, .if_icmp .gt 10, 3, 29, 0, 0, 0, 0, 0, []), (22, .iload_n 1, 1, 0, 0, 0, 0, 0, 0, []), (23, .ldc 225, 2, 0, 0, 281, 0, 1296000, 0, []), (25, .iadd, 1, 0, 0, 0, 0, 0, 0, []), (26, .goto 4, 3, 30, 0, 0, 0, 0, 0, []), (29, .iload_n 1, 1, 0, 0, 0, 0, 0, 0, []), (30, .ireturn, 1, 0, 0, 0, 0, 0, 0, [])]
def am_t80 : List aI := [(0, .iconst 0, 1, 0, 0, 0, 0, 0, 0, []), (1, .istore_n 3, 1, 0, 0, 0, 0, 0, 0, []), (2, .iconst 0, 1, 0, 0, 0, 0, 0, 0, []), (3, .istore 4, 2, 0, 0, 0, 0, 0, 0, []), (5, .iload 4, 2, 0, 0, 0, 0, 0, 0, []), (7, .aload_n 0, 1, 0, 0, 0, 0, 0, 0, []), (8, .getfield 33, 3, 4, 4, 219, 1, 0, 0, []), (11, .getfield 99, 3, 1, 5, 167, 0, 0, 0, []), (14, .if_icmp .ge 90, 3, 104, 0, 0, 0, 0, 0, []), (17, .iconst 1, 1, 0, 0, 0, 0, 1, 0, []), (18, .aload_n 0, 1, 0, 0, 0, 0, 0, 0, []), (19, .getfield 33, 3, 4, 4, 219, 1, 0, 0, []), (22, .getfield 102, 3, 1, 3, 163, 1, 0, 0, []), (25, .iload 4, 2, 0, 0, 0, 0, 0, 0, []), (27, .iaload, 1, 0, 0, 0, 0, 0, 0, []), (28, .bipush 6, 2, 0, 0, 0, 0, 6, 0, []), (30, .imul, 1, 0, 0, 0, 0, 0, 0, []), (31, .aload_n 0, 1, 0, 0, 0, 0, 0, 0, []), (32, .getfield 33, 3, 4, 4, 219, 1, 0, 0, []), (35, .getfield 105, 3, 1, 2, 161, 1, 0, 0, []), (38, .iload 4, 2, 0, 0, 0, 0, 0, 0, []), (40, .iaload, 1, 0, 0, 0, 0, 0, 0, []), (41, .iadd, 1, 0, 0, 0, 0, 0, 0, []), (42, .ishl, 1, 0, 0, 0, 0, 0, 0, []), (43, .istore 5, 2, 0, 0, 0, 0, 0, 0, []), (45, .iload_n 1, 1, 0, 0, 0, 0, 0, 0, []), (46, .iload_n 2, 1, 0, 0, 0, 0, 0, 0, []), (47, .aload_n 0, 1, 0, 0, 0, 0, 0, 0, []), (48, .getfield 33, 3, 4, 4, 219, 1, 0, 0, []), (51, .getfield 102, 3, 1, 3, 163, 1, 0, 0, []), (54, .iload 4, 2, 0, 0, 0, 0, 0, 0, []), (56, .iaload, 1, 0, 0, 0, 0, 0, 0, []), (57, .invokestatic 76, 3, 78, 0, 283, 1, 0, 0, []), (60, .istore 6, 2, 0, 0, 0, 0, 0, 0, []), (62, .iload_n 3, 1, 0, 0, 0, 0, 0, 0, []), (63, .iload 5, 2, 0, 0, 0, 0, 0, 0, []), (65, .iand, 1, 0, 0, 0, 0, 0, 0, []), (66, .ifCond .ne 25, 3, 91, 0, 0, 0, 0, 0, []), (69, .aload_n 0, 1, 0, 0, 0, 0, 0, 0, []), (70, .getfield 12, 3, 4, 0, 215, 1, 0, 0, []), (73, .iload 6, 2, 0, 0, 0, 0, 0, 0, []), (75, .aload_n 0, 1, 0, 0, 0, 0, 0, 0, []), (76, .getfield 33, 3, 4, 4, 219, 1, 0, 0, []), (79, .getfield 105, 3, 1, 2, 161, 1, 0, 0, []), (82, .iload 4, 2, 0, 0, 0, 0, 0, 0, []), (84, .iaload, 1, 0, 0, 0, 0, 0, 0, []), (85, .invokevirtual 80, 3, 36, 3, 286, 1, 0, 0, []), (88, .ifCond .ne 5, 3, 93, 0, 0, 0, 0, 0, []), (91, .iconst 0, 1, 0, 0, 0, 0, 0, 0, []), (92, .ireturn, 1, 0, 0, 0, 1, 0, 0, []), (93, .iload_n 3, 1, 0, 0, 0, 0, 0, 0, []), (94, .iload 5, 2, 0, 0, 0, 0, 0, 0, []), (96, .ior, 1, 0, 0, 0, 0, 0, 0, []), (97, .istore_n 3, 1, 0, 0, 0, 0, 0, 0, []), (98, .iinc 4 1, 3, 0, 0, 0, 0, 1, 0, []), (101, .goto (-96), 3, 5, 0, 0, 0, 0, 0, []), (104, .iconst 1, 1, 0, 0, 0, 0, 1, 0, []), (105, .ireturn, 1, 0, 0, 0, 1, 0, 0, [])]
def am_t81 : List aI := [(0, .aload_n 0, 1, 0, 0, 0, 0, 0, 0, []), (1, .getfield 12, 3, 4, 0, 215, 1, 0, 0, []), (4, .iload_n 1, 1, 0, 0, 0, 0, 0, 0, []), (5, .invokevirtual 111, 3, 34, 3, 348, 1, 0, 0, []), (8, .ifCond .eq 14, 3, 22, 0, 0, 0, 0, 0, []), (11, .aload_n 0, 1, 0, 0, 0, 0, 0, 0, []), (12, .getfield 12, 3, 4, 0, 215, 1, 0, 0, []), (15, .iload_n 1, 1, 0, 0, 0, 0, 0, 0, []), (16, .invokevirtual 117, 3, 40, 3, 349, 1, 0, 0, []), (19, .goto 5, 3, 24, 0, 0, 0, 0, 0, []), (22, .ldc 129, 2, 0, 0, 363, 0, (-2000005), 0, []), (24, .ireturn, 1, 0, 0, 0, 0, 0, 0, [])]
def am_t82 : List aI := [(0, .iconst 0, 1, 0, 0, 0, 0, 0, 0, []), (1, .istore_n 1, 1, 0, 0, 0, 0, 0, 0, []), (2, .iconst 0, 1, 0, 0, 0, 0, 0, 0, []), (3, .istore_n 2, 1, 0, 0, 0, 0, 0, 0, []), (4, .iload_n 2, 1, 0, 0, 0, 0, 0, 0, []), (5, .aload_n 0, 1, 0, 0, 0, 0, 0, 0, []), (6, .getfield 12, 3, 4, 0, 215, 1, 0, 0, []), (9, .getfield 44, 3, 3, 0, 86, 0, 0, 0, []), (12, .if_icmp .ge 63, 3, 75, 0, 0, 0, 0, 0, []), (15, .aload_n 0, 1, 0, 0, 0, 0, 0, 0, []), (16, .getfield 40, 3, 4, 5, 220, 1, 0, 0, []), (19, .aload_n 0, 1, 0, 0, 0, 0, 0, 0, []), (20, .getfield 12, 3, 4, 0, 215, 1, 0, 0, []), (23, .iload_n 2, 1, 0, 0, 0, 0, 0, 0, []), (24, .invokevirtual 137, 3, 14, 2, 385, 0, 0, 0, []), (27, .iconst 0, 1, 0, 0, 0, 0, 0, 0, []), (28, .istore_n 3, 1, 0, 0, 0, 0, 0, 0, []), (29, .iload_n 3, 1, 0, 0, 0, 0, 0, 0, []), (30, .aload_n 0, 1, 0, 0, 0, 0, 0, 0, []), (31, .getfield 12, 3, 4, 0, 215, 1, 0, 0, []), (34, .getfield 58, 3, 3, 2, 91, 1, 0, 0, []), (37, .iload_n 2, 1, 0, 0, 0, 0, 0, 0, []), (38, .iaload, 1, 0, 0, 0, 0, 0, 0, []), (39, .if_icmp .ge 30, 3, 69, 0, 0, 0, 0, 0, []), (42, .iload_n 1, 1, 0, 0, 0, 0, 0, 0, []), (43, .aload_n 0, 1, 0, 0, 0, 0, 0, 0, []), (44, .getfield 40, 3, 4, 5, 220, 1, 0, 0, []), (47, .iload_n 3, 1, 0, 0, 0, 0, 0, 0, []), (48, .aload_n 0, 1, 0, 0, 0, 0, 0, 0, []), (49, .getfield 12, 3, 4, 0, 215, 1, 0, 0, []), (52, .getfield 141, 3, 3, 1, 88, 0, 0, 0, []), (55, .invokevirtual 189, 3, 23, 2, 506, 1, 0, 0, []), (58, .invokestatic 254, 3, 158, 0, 595, 1, 0, 0, []), (61, .iadd, 1, 0, 0, 0, 0, 0, 0, []), (62, .istore_n 1, 1, 0, 0, 0, 0, 0, 0, []), (63, .iinc 3 1, 3, 0, 0, 0, 0, 1, 0, []), (66, .goto (-37), 3, 29, 0, 0, 0, 0, 0, []), (69, .iinc 2 1, 3, 0, 0, 0, 0, 1, 0, []), (72, .goto (-68), 3, 4, 0, 0, 0, 0, 0, []), (75, .iload_n 1, 1, 0, 0, 0, 0, 0, 0, []), (76, .ireturn, 1, 0, 0, 0, 0, 0, 0, [])]
def am_t83 : List aI := [(0, .aload_n 0, 1, 0, 0, 0, 0, 0, 0, []), (1, .getfield 12, 3, 4, 0, 215, 1, 0, 0, []), (4, .getfield 153, 3, 3, 4, 95, 1, 0, 0, []), (7, .iload_n 1, 1, 0, 0, 0, 0, 0, 0, []), (8, .iaload, 1, 0, 0, 0, 0, 0, 0, []), (9, .ldc_w 259, 3, 0, 0, 532, 0, 54000, 0, []), (12, .imul, 1, 0, 0, 0, 0, 0, 0, []), (13, .aload_n 0, 1, 0, 0, 0, 0, 0, 0, []), (14, .getfield 40, 3, 4, 5, 220, 1, 0, 0, []), (17, .getfield 213, 3, 2, 5, 201, 1, 0, 0, []), (20, .iload_n 2, 1, 0, 0, 0, 0, 0, 0, []), (21, .iaload, 1, 0, 0, 0, 0, 0, 0, []), (22, .isub, 1, 0, 0, 0, 0, 0, 0, []), (23, .istore_n 3, 1, 0, 0, 0, 0, 0, 0, []), (24, .iload_n 3, 1, 0, 0, 0, 0, 0, 0, []), (25, .sipush 27000, 3, 0, 0, 0, 0, 27000, 0, []), (28, .iadd, 1, 0, 0, 0, 0, 0, 0, []), (29, .ldc 225, 2, 0, 0, 281, 0, 1296000, 0, []), (31, .invokestatic 226, 3, 160, 0, 533, 1, 0, 0, []), (34, .ldc_w 259, 3, 0, 0, 532, 0, 54000, 0, []), (37, .idiv, 1, 0, 0, 0, 0, 0, 0, []), (38, .istore 4, 2, 0, 0, 0, 0, 0, 0, []), (40, .aload_n 0, 1, 0, 0, 0, 0, 0, 0, []), (41, .getfield 12, 3, 4, 0, 215, 1, 0, 0, []), (44, .getfield 150, 3, 3, 3, 93, 1, 0, 0, []), (47, .iload_n 1, 1, 0, 0, 0, 0, 0, 0, []), (48, .iaload, 1, 0, 0, 0, 0, 0, 0, []), (49, .i2l, 1, 0, 0, 0, 0, 0, 0, []), (50, .getstatic 260, 3, 0, 0, 534, 0, 0, 0, []), (53, .iload 4, 2, 0, 0, 0, 0, 0, 0, []), (55, .iaload, 1, 0, 0, 0, 0, 0, 0, []), (56, .i2l, 1, 0, 0, 0, 0, 0, 0, []), (57, .lmul, 1, 0, 0, 0, 0, 0, 0, []), (58, .ldc2_w 263, 3, 0, 0, 536, 0, 0, 206265, []), (61, .lmul, 1, 0, 0, 0, 0, 0, 0, []), (62, .lstore 5, 2, 0, 0, 0, 0, 0, 0, []), (64, .lload 5, 2, 0, 0, 0, 0, 0, 0, []), (66, .aload_n 0, 1, 0, 0, 0, 0, 0, 0, []), (67, .getfield 12, 3, 4, 0, 215, 1, 0, 0, []), (70, .getfield 156, 3, 3, 5, 97, 1, 0, 0, []), (73, .iload_n 2, 1, 0, 0, 0, 0, 0, 0, []), (74, .iaload, 1, 0, 0, 0, 0, 0, 0, []), (75, .i2l, 1, 0, 0, 0, 0, 0, 0, []), (76, .ldc2_w 265, 3, 0, 0, 537, 0, 0, 1000000, []), (79, .lmul, 1, 0, 0, 0, 0, 0, 0, []), (80, .ldiv, 1, 0, 0, 0, 0, 0, 0, []), (81, .l2i, 1, 0, 0, 0, 0, 0, 0, []), (82, .ireturn, 1, 0, 0, 0, 0, 0, 0, [])]
def am_t84 : List aI := [(0, .aload_n 0, 1, 0, 0, 0, 0, 0, 0, []), (1, .getfield 40, 3, 4, 5, 220, 1, 0, 0, []), (4, .getfield 213, 3, 2, 5, 201, 1, 0, 0, []), (7, .iload_n 2, 1, 0, 0, 0, 0, 0, 0, []), (8, .iaload, 1, 0, 0, 0, 0, 0, 0, []), (9, .aload_n 0, 1, 0, 0, 0, 0, 0, 0, []), (10, .iload_n 1, 1, 0, 0, 0, 0, 0, 0, []), (11, .iload_n 2, 1, 0, 0, 0, 0, 0, 0, []), (12, .invokevirtual 216, 3, 83, 4, 528, 1, 0, 0, []), (15, .iadd, 1, 0, 0, 0, 0, 0, 0, []), (16, .aload_n 0, 1, 0, 0, 0, 0, 0, 0, []), (17, .iload_n 1, 1, 0, 0, 0, 0, 0, 0, []), (18, .iconst 0, 1, 0, 0, 0, 0, 0, 0, []), (19, .invokevirtual 216, 3, 83, 4, 528, 1, 0, 0, []), (22, .isub, 1, 0, 0, 0, 0, 0, 0, []), (23, .istore_n 3, 1, 0, 0, 0, 0, 0, 0, []), (24, .iload_n 3, 1, 0, 0, 0, 0, 0, 0, []), (25, .ldc 225, 2, 0, 0, 281, 0, 1296000, 0, []), (27, .invokestatic 226, 3, 160, 0, 533, 1, 0, 0, []), (30, .ireturn, 1, 0, 0, 0, 0, 0, 0, [])]
def am_t85 : List aI := [(0, .aload_n 0, 1, 0, 0, 0, 0, 0, 0, []), (1, .invokespecial 1, 3, 0, 2, 609, 0, 0, 0, []), (4, .aload_n 0, 1, 0, 0, 0, 0, 0, 0, []), (5, .sipush 1028, 3, 0, 0, 0, 0, 1028, 0, []), (8, .newarray .int, 2, 1028, 1, 131, 0, 1028, 0, []), (10, .putfield 7, 3, 5, 0, 610, 1, 0, 0, []), (13, .aload_n 0, 1, 0, 0, 0, 0, 0, 0, []), (14, .sipush 1028, 3, 0, 0, 0, 0, 1028, 0, []), (17, .newarray .int, 2, 1028, 1, 131, 0, 1028, 0, []), (19, .putfield 13, 3, 5, 1, 611, 1, 0, 0, []), (22, .aload_n 0, 1, 0, 0, 0, 0, 0, 0, []), (23, .sipush 4112, 3, 0, 0, 0, 0, 4112, 0, []), (26, .newarray .int, 2, 4112, 1, 131, 0, 4112, 0, []), (28, .putfield 16, 3, 5, 2, 612, 1, 0, 0, []), (31, .aload_n 0, 1, 0, 0, 0, 0, 0, 0, []), (32, .sipush 1028, 3, 0, 0, 0, 0, 1028, 0, []), (35, .newarray .int, 2, 1028, 1, 131, 0, 1028, 0, []), (37, .putfield 19, 3, 5, 4, 614, 1, 0, 0, []), (40, .aload_n 0, 1, 0, 0, 0, 0, 0, 0, []), (41, .bipush 60, 2, 0, 0, 0, 0, 60, 0, []), (43, .newarray .int, 2, 60, 1, 131, 0, 60, 0, []), (45, .putfield 22, 3, 5, 6, 616, 1, 0, 0, []), (48, .aload_n 0, 1, 0, 0, 0, 0, 0, 0, []), (49, .getfield 7, 3, 5, 0, 610, 1, 0, 0, []), (52, .iconst 1, 1, 0, 0, 0, 0, 1, 0, []), (53, .bipush 20, 2, 0, 0, 0, 0, 20, 0, []), (55, .iastore, 1, 0, 0, 0, 0, 0, 0, []), (56, .iconst 0, 1, 0, 0, 0, 0, 0, 0, []), (57, .istore_n 1, 1, 0, 0, 0, 0, 0, 0, []), (58, .iload_n 1, 1, 0, 0, 0, 0, 0, 0, []), (59, .bipush 6, 2, 0, 0, 0, 0, 6, 0, []), (61, .if_icmp .ge 19, 3, 80, 0, 0, 0, 0, 0, []), (64, .aload_n 0, 1, 0, 0, 0, 0, 0, 0, []), (65, .getfield 7, 3, 5, 0, 610, 1, 0, 0, []), (68, .iconst 2, 1, 0, 0, 0, 0, 2, 0, []), (69, .iload_n 1, 1, 0, 0, 0, 0, 0, 0, []), (70, .iadd, 1, 0, 0, 0, 0, 0, 0, []), (71, .bipush 100, 2, 0, 0, 0, 0, 100, 0, []), (73, .iastore, 1, 0, 0, 0, 0, 0, 0, []), (74, .iinc 1 1, 3, 0, 0, 0, 0, 1, 0, []), (77, .goto (-19), 3, 58, 0, 0, 0, 0, 0, []), (80, .return_, 1, 0, 0, 0, 0, 0, 0, [])]
def am_t86 : List aI := [(0, .iload_n 0, 1, 0, 0, 0, 0, 0, 0, []), (1, .iload_n 1, 1, 0, 0, 0, 0, 0, 0, []), (2, .if_icmp .lt 12, 3, 14, 0, 0, 0, 0, 0, []), (5, .iload_n 0, 1, 0, 0, 0, 0, 0, 0, []), (6, .iload_n 2, 1, 0, 0, 0, 0, 0, 0, []), (7, .if_icmp .gt 7, 3, 14, 0, 0, 0, 0, 0, []), (10, .iconst 1, 1, 0, 0, 0, 0, 1, 0, []), (11, .goto 4, 3, 15, 0, 0, 0, 0, 0, []), (14, .iconst 0, 1, 0, 0, 0, 0, 0, 0, []), (15, .ireturn, 1, 0, 0, 0, 1, 0, 0, [])]
def am_t87 : List aI := [(0, .bipush 8, 2, 0, 0, 0, 0, 8, 0, []), (2, .sipush 255, 3, 0, 0, 0, 0, 255, 0, []), (5, .iload_n 0, 1, 0, 0, 0, 0, 0, 0, []), (6, .imul, 1, 0, 0, 0, 0, 0, 0, []), (7, .iadd, 1, 0, 0, 0, 0, 0, 0, []), (8, .iload_n 1, 1, 0, 0, 0, 0, 0, 0, []), (9, .iadd, 1, 0, 0, 0, 0, 0, 0, []), (10, .ireturn, 1, 0, 0, 0, 0, 0, 0, [])]
def am_t88 : List aI := [(0, .iload_n 0, 1, 0, 0, 0, 0, 0, 0, []), (1, .iconst 3, 1, 0, 0, 0, 0, 3, 0, []), (2, .invokestatic 25, 3, 87, 0, 653, 1, 0, 0, []), (5, .bipush 42, 2, 0, 0, 0, 0, 42, 0, []), (7, .iload_n 1, 1, 0, 0, 0, 0, 0, 0, []), (8, .imul, 1, 0, 0, 0, 0, 0, 0, []), (9, .iadd, 1, 0, 0, 0, 0, 0, 0, []), (10, .bipush 21, 2, 0, 0, 0, 0, 21, 0, []), (12, .iload_n 2, 1, 0, 0, 0, 0, 0, 0, []), (13, .imul, 1, 0, 0, 0, 0, 0, 0, []), (14, .iadd, 1, 0, 0, 0, 0, 0, 0, []), (15, .ireturn, 1, 0, 0, 0, 0, 0, 0, [])]
def am_t89 : List aI := [(0, .iload_n 1, 1, 0, 0, 0, 0, 0, 0, []), (1, .iconst 0, 1, 0, 0, 0, 0, 0, 0, []), (2, .aload_n 0, 1, 0, 0, 0, 0, 0, 0, []), (3, .getfield 7, 3, 5, 0, 610, 1, 0, 0, []), (6, .iconst 0, 1, 0, 0, 0, 0, 0, 0, []), (7, .iaload, 1, 0, 0, 0, 0, 0, 0, []), (8, .iconst 1, 1, 0, 0, 0, 0, 1, 0, []), (9, .isub, 1, 0, 0, 0, 0, 0, 0, []), (10, .invokestatic 29, 3, 86, 0, 664, 1, 0, 0, []), (13, .ireturn, 1, 0, 0, 0, 1, 0, 0, [])]
def am_t90 : List aI := [(0, .aload_n 0, 1, 0, 0, 0, 0, 0, 0, []), (1, .iload_n 1, 1, 0, 0, 0, 0, 0, 0, []), (2, .invokevirtual 33, 3, 89, 5, 660, 1, 0, 0, []), (5, .ifCond .eq 27, 3, 32, 0, 0, 0, 0, 0, []), (8, .iload_n 2, 1, 0, 0, 0, 0, 0, 0, []), (9, .iconst 0, 1, 0, 0, 0, 0, 0, 0, []), (10, .aload_n 0, 1, 0, 0, 0, 0, 0, 0, []), (11, .getfield 7, 3, 5, 0, 610, 1, 0, 0, []), (14, .iload_n 1, 1, 0, 0, 0, 0, 0, 0, []), (15, .iconst 0, 1, 0, 0, 0, 0, 0, 0, []), (16, .invokestatic 25, 3, 87, 0, 653, 1, 0, 0, []), (19, .iaload, 1, 0, 0, 0, 0, 0, 0, []), (20, .iconst 1, 1, 0, 0, 0, 0, 1, 0, []), (21, .isub, 1, 0, 0, 0, 0, 0, 0, []), (22, .invokestatic 29, 3, 86, 0, 664, 1, 0, 0, []), (25, .ifCond .eq 7, 3, 32, 0, 0, 0, 0, 0, []), (28, .iconst 1, 1, 0, 0, 0, 0, 1, 0, []), (29, .goto 4, 3, 33, 0, 0, 0, 0, 0, []), (32, .iconst 0, 1, 0, 0, 0, 0, 0, 0, []), (33, .ireturn, 1, 0, 0, 0, 1, 0, 0, [])]
def am_t91 : List aI := [(0, .iload_n 0, 1, 0, 0, 0, 0, 0, 0, []), (1, .iconst 0, 1, 0, 0, 0, 0, 0, 0, []), (2, .iconst 5, 1, 0, 0, 0, 0, 5, 0, []), (3, .invokestatic 29, 3, 86, 0, 664, 1, 0, 0, []), (6, .ireturn, 1, 0, 0, 0, 1, 0, 0, [])]
def am_t92 : List aI := [(0, .aload_n 0, 1, 0, 0, 0, 0, 0, 0, []), (1, .getfield 37, 3, 5, 3, 613, 0, 0, 0, []), (4, .iconst 4, 1, 0, 0, 0, 0, 4, 0, []), (5, .if_icmp .ne 44, 3, 49, 0, 0, 0, 0, 0, []), (8, .iconst 0, 1, 0, 0, 0, 0, 0, 0, []), (9, .istore_n 1, 1, 0, 0, 0, 0, 0, 0, []), (10, .iload_n 1, 1, 0, 0, 0, 0, 0, 0, []), (11, .sipush 3084, 3, 0, 0, 0, 0, 3084, 0, []), (14, .if_icmp .ge 25, 3, 39, 0, 0, 0, 0, 0, []), (17, .aload_n 0, 1, 0, 0, 0, 0, 0, 0, []), (18, .getfield 16, 3, 5, 2, 612, 1, 0, 0, []), (21, .iload_n 1, 1, 0, 0, 0, 0, 0, 0, []), (22, .aload_n 0, 1, 0, 0, 0, 0, 0, 0, []), (23, .getfield 16, 3, 5, 2, 612, 1, 0, 0, []), (26, .sipush 1028, 3, 0, 0, 0, 0, 1028, 0, []), (29, .iload_n 1, 1, 0, 0, 0, 0, 0, 0, []), (30, .iadd, 1, 0, 0, 0, 0, 0, 0, []), (31, .iaload, 1, 0, 0, 0, 0, 0, 0, []), (32, .iastore, 1, 0, 0, 0, 0, 0, 0, []), (33, .iinc 1 1, 3, 0, 0, 0, 0, 1, 0, []), (36, .goto (-26), 3, 10, 0, 0, 0, 0, 0, []), (39, .aload_n 0, 1, 0, 0, 0, 0, 0, 0, []), (40, .dup, 1, 0, 0, 0, 0, 0, 0, []), (41, .getfield 37, 3, 5, 3, 613, 0, 0, 0, []), (44, .iconst 1, 1, 0, 0, 0, 0, 1, 0, []), (45, .isub, 1, 0, 0, 0, 0, 0, 0, []), (46, .putfield 37, 3, 5, 3, 613, 0, 0, 0, []), (49, .iconst 0, 1, 0, 0, 0, 0, 0, 0, []), (50, .istore_n 1, 1, 0, 0, 0, 0, 0, 0, []), (51, .iload_n 1, 1, 0, 0, 0, 0, 0, 0, []), (52, .sipush 1028, 3, 0, 0, 0, 0, 1028, 0, []), (55, .if_icmp .ge 30, 3, 85, 0, 0, 0, 0, 0, []), (58, .aload_n 0, 1, 0, 0, 0, 0, 0, 0, []), (59, .getfield 16, 3, 5, 2, 612, 1, 0, 0, []), (62, .sipush 1028, 3, 0, 0, 0, 0, 1028, 0, []), (65, .aload_n 0, 1, 0, 0, 0, 0, 0, 0, []), (66, .getfield 37, 3, 5, 3, 613, 0, 0, 0, []), (69, .imul, 1, 0, 0, 0, 0, 0, 0, []), (70, .iload_n 1, 1, 0, 0, 0, 0, 0, 0, []), (71, .iadd, 1, 0, 0, 0, 0, 0, 0, []), (72, .aload_n 0, 1, 0, 0, 0, 0, 0, 0, []), (73, .getfield 7, 3, 5, 0, 610, 1, 0, 0, []), (76, .iload_n 1, 1, 0, 0, 0, 0, 0, 0, []), (77, .iaload, 1, 0, 0, 0, 0, 0, 0, []), (78, .iastore, 1, 0, 0, 0, 0, 0, 0, []), (79, .iinc 1 1, 3, 0, 0, 0, 0, 1, 0, []), (82, .goto (-31), 3, 51, 0, 0, 0, 0, 0, []), (85, .aload_n 0, 1, 0, 0, 0, 0, 0, 0, []), (86, .dup, 1, 0, 0, 0, 0, 0, 0, []), (87, .getfield 37, 3, 5, 3, 613, 0, 0, 0, []), (90, .iconst 1, 1, 0, 0, 0, 0, 1, 0, []), (91, .iadd, 1, 0, 0, 0, 0, 0, 0, []), (92, .putfield 37, 3, 5, 3, 613, 0, 0, 0, []), (95, .return_, 1, 0, 0, 0, 0, 0, 0, [])]
def am_t93 : List aI := [(0, .iconst 0, 1, 0, 0, 0, 0, 0, 0, []), (1, .istore_n 1, 1, 0, 0, 0, 0, 0, 0, []), (2, .iload_n 1, 1, 0, 0, 0, 0, 0, 0, []), (3, .sipush 1028, 3, 0, 0, 0, 0, 1028, 0, []), (6, .if_icmp .ge 21, 3, 27, 0, 0, 0, 0, 0, []), (9, .aload_n 0, 1, 0, 0, 0, 0, 0, 0, []), (10, .getfield 13, 3, 5, 1, 611, 1, 0, 0, []), (13, .iload_n 1, 1, 0, 0, 0, 0, 0, 0, []), (14, .aload_n 0, 1, 0, 0, 0, 0, 0, 0, []), (15, .getfield 7, 3, 5, 0, 610, 1, 0, 0, []), (18, .iload_n 1, 1, 0, 0, 0, 0, 0, 0, []), (19, .iaload, 1, 0, 0, 0, 0, 0, 0, []), (20, .iastore, 1, 0, 0, 0, 0, 0, 0, []), (21, .iinc 1 1, 3, 0, 0, 0, 0, 1, 0, []), (24, .goto (-22), 3, 2, 0, 0, 0, 0, 0, []), (27, .return_, 1, 0, 0, 0, 0, 0, 0, [])]
def am_t94 : List aI := [(0, .iconst 0, 1, 0, 0, 0, 0, 0, 0, []), (1, .istore_n 1, 1, 0, 0, 0, 0, 0, 0, []), (2, .iload_n 1, 1, 0, 0, 0, 0, 0, 0, []), (3, .sipush 1028, 3, 0, 0, 0, 0, 1028, 0, []), (6, .if_icmp .ge 21, 3, 27, 0, 0, 0, 0, 0, []), (9, .aload_n 0, 1, 0, 0, 0, 0, 0, 0, []), (10, .getfield 7, 3, 5, 0, 610, 1, 0, 0, []), (13, .iload_n 1, 1, 0, 0, 0, 0, 0, 0, []), (14, .aload_n 0, 1, 0, 0, 0, 0, 0, 0, []), (15, .getfield 13, 3, 5, 1, 611, 1, 0, 0, []), (18, .iload_n 1, 1, 0, 0, 0, 0, 0, 0, []), (19, .iaload, 1, 0, 0, 0, 0, 0, 0, []), (20, .iastore, 1, 0, 0, 0, 0, 0, 0, []), (21, .iinc 1 1, 3, 0, 0, 0, 0, 1, 0, []), (24, .goto (-22), 3, 2, 0, 0, 0, 0, 0, []), (27, .return_, 1, 0, 0, 0, 0, 0, 0, [])]
def am_t95 : List aI := [(0, .aload_n 0, 1, 0, 0, 0, 0, 0, 0, []), (1, .getfield 7, 3, 5, 0, 610, 1, 0, 0, []), (4, .iload_n 1, 1, 0, 0, 0, 0, 0, 0, []), (5, .iaload, 1, 0, 0, 0, 0, 0, 0, []), (6, .istore_n 3, 1, 0, 0, 0, 0, 0, 0, []), (7, .aload_n 0, 1, 0, 0, 0, 0, 0, 0, []), (8, .getfield 7, 3, 5, 0, 610, 1, 0, 0, []), (11, .iload_n 1, 1, 0, 0, 0, 0, 0, 0, []), (12, .iload_n 2, 1, 0, 0, 0, 0, 0, 0, []), (13, .iastore, 1, 0, 0, 0, 0, 0, 0, []), (14, .iload_n 3, 1, 0, 0, 0, 0, 0, 0, []), (15, .ireturn, 1, 0, 0, 0, 0, 0, 0, [])]
def am_t96 : List aI := [(0, .iload_n 0, 1, 0, 0, 0, 0, 0, 0, []), (1, .iload_n 1, 1, 0, 0, 0, 0, 0, 0, []), (2, .idiv, 1, 0, 0, 0, 0, 0, 0, []), (3, .istore_n 2, 1, 0, 0, 0, 0, 0, 0, []), (4, .iload_n 2, 1, 0, 0, 0, 0, 0, 0, []), (5, .iload_n 1, 1, 0, 0, 0, 0, 0, 0, []), (6, .imul, 1, 0, 0, 0, 0, 0, 0, []), (7, .iload_n 0, 1, 0, 0, 0, 0, 0, 0, []), (8, .if_icmp .le 9, 3, 17, 0, 0, 0, 0, 0, []), (11, .iload_n 2, 1, 0, 0, 0, 0, 0, 0, []), (12, .iconst 1, 1, 0, 0, 0, 0, 1, 0, []), (13, .isub, 1, 0, 0, 0, 0, 0, 0, []), (14, .goto 4, 3, 18, 0, 0, 0, 0, 0, []), (17, .iload_n 2, 1, 0, 0, 0, 0, 0, 0, []), (18, .ireturn, 1, 0, 0, 0, 0, 0, 0, [])]
def am_t97 : List aI := [(0, .iload_n 0, 1, 0, 0, 0, 0, 0, 0, []), (1, .ldc 41, 2, 0, 0, 715, 0, 1296000, 0, []), (3, .irem, 1, 0, 0, 0, 0, 0, 0, []), (4, .istore_n 1, 1, 0, 0, 0, 0, 0, 0, []), (5, .iload_n 1, 1, 0, 0, 0, 0, 0, 0, []), (6, .ifCond .ge 10, 3, 16, 0, 0, 0, 0, 0, []), (9, .iload_n 1, 1, 0, 0, 0, 0, 0, 0, []), (10, .ldc 41, 2, 0, 0, 715, 0, 1296000, 0, []), (12, .iadd, 1, 0, 0, 0, 0, 0, 0, []), (13, .goto 4, 3, 17, 0, 0, 0, 0, 0, []), (16, .iload_n 1, 1, 0, 0, 0, 0, 0, 0, []), (17, .ireturn, 1, 0, 0, 0, 0, 0, 0, [])]
def am_t98 : List aI := [(0, .iload_n 0, 1, 0, 0, 0, 0, 0, 0, []), (1, .invokestatic 42, 3, 97, 0, 712, 1, 0, 0, []), (4, .istore_n 1, 1, 0, 0, 0, 0, 0, 0, []), (5, .iload_n 1, 1, 0, 0, 0, 0, 0, 0, []), (6, .ldc 46, 2, 0, 0, 716, 0, 648000, 0, []), (8, .if_icmp .le 10, 3, 18, 0, 0, 0, 0, 0, []), (11, .iload_n 1, 1, 0, 0, 0, 0, 0, 0, []), (12, .ldc 41, 2, 0, 0, 715, 0, 1296000, 0, []), (14, .isub, 1, 0, 0, 0, 0, 0, 0, []), (15, .goto 4, 3, 19, 0, 0, 0, 0, 0, []), (18, .iload_n 1, 1, 0, 0, 0, 0, 0, 0, []), (19, .ireturn, 1, 0, 0, 0, 0, 0, 0, [])]
def am_t99 : List aI := [(0, .iload_n 0, 1, 0, 0, 0, 0, 0, 0, []), (1, .ifCond .ge 8, 3, 9, 0, 0, 0, 0, 0, []), (4, .iload_n 0, 1, 0, 0, 0, 0, 0, 0, []), (5, .ineg, 1, 0, 0, 0, 0, 0, 0, []), (6, .goto 4, 3, 10, 0, 0, 0, 0, 0, []), (9, .iload_n 0, 1, 0, 0, 0, 0, 0, 0, []), (10, .ireturn, 1, 0, 0, 0, 0, 0, 0, [])]
def am_t100 : List aI := [(0, .iload_n 0, 1, 0, 0, 0, 0, 0, 0, []), (1, .iconst 3, 1, 0, 0, 0, 0, 3, 0, []), (2, .iadd, 1, 0, 0, 0, 0, 0, 0, []), (3, .iconst 3, 1, 0, 0, 0, 0, 3, 0, []), (4, .iload_n 1, 1, 0, 0, 0, 0, 0, 0, []), (5, .imul, 1, 0, 0, 0, 0, 0, 0, []), (6, .iadd, 1, 0, 0, 0, 0, 0, 0, []), (7, .iload_n 2, 1, 0, 0, 0, 0, 0, 0, []), (8, .iadd, 1, 0, 0, 0, 0, 0, 0, []), (9, .ireturn, 1, 0, 0, 0, 0, 0, 0, [])]
def am_t101 : List aI := [(0, .iconst 0, 1, 0, 0, 0, 0, 0, 0, []), (1, .istore_n 3, 1, 0, 0, 0, 0, 0, 0, []), (2, .iload_n 3, 1, 0, 0, 0, 0, 0, 0, []), (3, .aload_n 0, 1, 0, 0, 0, 0, 0, 0, []), (4, .getfield 7, 3, 5, 0, 610, 1, 0, 0, []), (7, .iload_n 1, 1, 0, 0, 0, 0, 0, 0, []), (8, .iconst 0, 1, 0, 0, 0, 0, 0, 0, []), (9, .iadd, 1, 0, 0, 0, 0, 0, 0, []), (10, .iaload, 1, 0, 0, 0, 0, 0, 0, []), (11, .if_icmp .ge 26, 3, 37, 0, 0, 0, 0, 0, []), (14, .aload_n 0, 1, 0, 0, 0, 0, 0, 0, []), (15, .getfield 7, 3, 5, 0, 610, 1, 0, 0, []), (18, .iload_n 1, 1, 0, 0, 0, 0, 0, 0, []), (19, .iload_n 3, 1, 0, 0, 0, 0, 0, 0, []), (20, .iconst 0, 1, 0, 0, 0, 0, 0, 0, []), (21, .invokestatic 47, 3, 100, 0, 692, 1, 0, 0, []), (24, .iaload, 1, 0, 0, 0, 0, 0, 0, []), (25, .iload_n 2, 1, 0, 0, 0, 0, 0, 0, []), (26, .if_icmp .ne 5, 3, 31, 0, 0, 0, 0, 0, []), (29, .iload_n 3, 1, 0, 0, 0, 0, 0, 0, []), (30, .ireturn, 1, 0, 0, 0, 0, 0, 0, []), (31, .iinc 3 1, 3, 0, 0, 0, 0, 1, 0, []), (34, .goto (-32), 3, 2, 0, 0, 0, 0, 0, []), (37, .ldc 51, 2, 0, 0, 695, 0, (-2000005), 0, []), (39, .ireturn, 1, 0, 0, 0, 0, 0, 0, [])]
def am_t102 : List aI := [(0, .aload_n 0, 1, 0, 0, 0, 0, 0, 0, []), (1, .getfield 7, 3, 5, 0, 610, 1, 0, 0, []), (4, .iload_n 1, 1, 0, 0, 0, 0, 0, 0, []), (5, .iconst 2, 1, 0, 0, 0, 0, 2, 0, []), (6, .iadd, 1, 0, 0, 0, 0, 0, 0, []), (7, .iaload, 1, 0, 0, 0, 0, 0, 0, []), (8, .aload_n 0, 1, 0, 0, 0, 0, 0, 0, []), (9, .getfield 7, 3, 5, 0, 610, 1, 0, 0, []), (12, .iload_n 1, 1, 0, 0, 0, 0, 0, 0, []), (13, .iconst 0, 1, 0, 0, 0, 0, 0, 0, []), (14, .iconst 1, 1, 0, 0, 0, 0, 1, 0, []), (15, .invokestatic 47, 3, 100, 0, 692, 1, 0, 0, []), (18, .iaload, 1, 0, 0, 0, 0, 0, 0, []), (19, .isub, 1, 0, 0, 0, 0, 0, 0, []), (20, .invokestatic 52, 3, 98, 0, 709, 1, 0, 0, []), (23, .ireturn, 1, 0, 0, 0, 0, 0, 0, [])]
def am_t103 : List aI := [(0, .aload_n 0, 1, 0, 0, 0, 0, 0, 0, []), (1, .getfield 7, 3, 5, 0, 610, 1, 0, 0, []), (4, .iload_n 1, 1, 0, 0, 0, 0, 0, 0, []), (5, .iconst 1, 1, 0, 0, 0, 0, 1, 0, []), (6, .iadd, 1, 0, 0, 0, 0, 0, 0, []), (7, .iaload, 1, 0, 0, 0, 0, 0, 0, []), (8, .iconst 1, 1, 0, 0, 0, 0, 1, 0, []), (9, .if_icmp .ne 24, 3, 33, 0, 0, 0, 0, 0, []), (12, .aload_n 0, 1, 0, 0, 0, 0, 0, 0, []), (13, .iload_n 1, 1, 0, 0, 0, 0, 0, 0, []), (14, .invokevirtual 55, 3, 102, 5, 705, 1, 0, 0, []), (17, .iload_n 2, 1, 0, 0, 0, 0, 0, 0, []), (18, .imul, 1, 0, 0, 0, 0, 0, 0, []), (19, .aload_n 0, 1, 0, 0, 0, 0, 0, 0, []), (20, .getfield 7, 3, 5, 0, 610, 1, 0, 0, []), (23, .iload_n 1, 1, 0, 0, 0, 0, 0, 0, []), (24, .iconst 0, 1, 0, 0, 0, 0, 0, 0, []), (25, .iadd, 1, 0, 0, 0, 0, 0, 0, []), (26, .iaload, 1, 0, 0, 0, 0, 0, 0, []), (27, .invokestatic 58, 3, 96, 0, 777, 1, 0, 0, []), (30, .goto 4, 3, 34, 0, 0, 0, 0, 0, []), (33, .iconst 0, 1, 0, 0, 0, 0, 0, 0, []), (34, .istore_n 3, 1, 0, 0, 0, 0, 0, 0, []), (35, .aload_n 0, 1, 0, 0, 0, 0, 0, 0, []), (36, .getfield 7, 3, 5, 0, 610, 1, 0, 0, []), (39, .iload_n 1, 1, 0, 0, 0, 0, 0, 0, []), (40, .iload_n 2, 1, 0, 0, 0, 0, 0, 0, []), (41, .iconst 1, 1, 0, 0, 0, 0, 1, 0, []), (42, .invokestatic 47, 3, 100, 0, 692, 1, 0, 0, []), (45, .iaload, 1, 0, 0, 0, 0, 0, 0, []), (46, .iload_n 3, 1, 0, 0, 0, 0, 0, 0, []), (47, .isub, 1, 0, 0, 0, 0, 0, 0, []), (48, .ireturn, 1, 0, 0, 0, 0, 0, 0, [])]
def am_t104 : List aI := [(0, .iconst 0, 1, 0, 0, 0, 0, 0, 0, []), (1, .istore_n 2, 1, 0, 0, 0, 0, 0, 0, []), (2, .iconst 0, 1, 0, 0, 0, 0, 0, 0, []), (3, .istore_n 3, 1, 0, 0, 0, 0, 0, 0, []), (4, .iload_n 3, 1, 0, 0, 0, 0, 0, 0, []), (5, .aload_n 0, 1, 0, 0, 0, 0, 0, 0, []), (6, .getfield 7, 3, 5, 0, 610, 1, 0, 0, []), (9, .iload_n 1, 1, 0, 0, 0, 0, 0, 0, []), (10, .iconst 0, 1, 0, 0, 0, 0, 0, 0, []), (11, .iadd, 1, 0, 0, 0, 0, 0, 0, []), (12, .iaload, 1, 0, 0, 0, 0, 0, 0, []), (13, .if_icmp .ge 23, 3, 36, 0, 0, 0, 0, 0, []), (16, .iload_n 2, 1, 0, 0, 0, 0, 0, 0, []), (17, .aload_n 0, 1, 0, 0, 0, 0, 0, 0, []), (18, .getfield 7, 3, 5, 0, 610, 1, 0, 0, []), (21, .iload_n 1, 1, 0, 0, 0, 0, 0, 0, []), (22, .iload_n 3, 1, 0, 0, 0, 0, 0, 0, []), (23, .iconst 2, 1, 0, 0, 0, 0, 2, 0, []), (24, .invokestatic 47, 3, 100, 0, 692, 1, 0, 0, []), (27, .iaload, 1, 0, 0, 0, 0, 0, 0, []), (28, .iadd, 1, 0, 0, 0, 0, 0, 0, []), (29, .istore_n 2, 1, 0, 0, 0, 0, 0, 0, []), (30, .iinc 3 1, 3, 0, 0, 0, 0, 1, 0, []), (33, .goto (-29), 3, 4, 0, 0, 0, 0, 0, []), (36, .iload_n 2, 1, 0, 0, 0, 0, 0, 0, []), (37, .ireturn, 1, 0, 0, 0, 0, 0, 0, [])]
def am_t105 : List aI := [(0, .iload_n 1, 1, 0, 0, 0, 0, 0, 0, []), (1, .iload_n 2, 1, 0, 0, 0, 0, 0, 0, []), (2, .iconst 0, 1, 0, 0, 0, 0, 0, 0, []), (3, .invokestatic 61, 3, 88, 0, 668, 1, 0, 0, []), (6, .istore 4, 2, 0, 0, 0, 0, 0, 0, []), (8, .iload_n 1, 1, 0, 0, 0, 0, 0, 0, []), (9, .iload_n 2, 1, 0, 0, 0, 0, 0, 0, []), (10, .iconst 1, 1, 0, 0, 0, 0, 1, 0, []), (11, .invokestatic 61, 3, 88, 0, 668, 1, 0, 0, []), (14, .istore 5, 2, 0, 0, 0, 0, 0, 0, []), (16, .aload_n 0, 1, 0, 0, 0, 0, 0, 0, []), (17, .iload 4, 2, 0, 0, 0, 0, 0, 0, []), (19, .iload_n 3, 1, 0, 0, 0, 0, 0, 0, []), (20, .invokevirtual 64, 3, 101, 5, 688, 1, 0, 0, []), (23, .istore 6, 2, 0, 0, 0, 0, 0, 0, []), (25, .aload_n 0, 1, 0, 0, 0, 0, 0, 0, []), (26, .iload 5, 2, 0, 0, 0, 0, 0, 0, []), (28, .iload_n 3, 1, 0, 0, 0, 0, 0, 0, []), (29, .invokevirtual 64, 3, 101, 5, 688, 1, 0, 0, []), (32, .istore 7, 2, 0, 0, 0, 0, 0, 0, []), (34, .iload 6, 2, 0, 0, 0, 0, 0, 0, []), (36, .ldc 51, 2, 0, 0, 695, 0, (-2000005), 0, []), (38, .if_icmp .ne 7, 3, 45, 0, 0, 0, 0, 0, []), (41, .iconst 1, 1, 0, 0, 0, 0, 1, 0, []), (42, .goto 49, 3, 91, 0, 0, 0, 0, 0, []), (45, .iload 7, 2, 0, 0, 0, 0, 0, 0, []), (47, .ldc 51, 2, 0, 0, 695, 0, (-2000005), 0, []), (49, .if_icmp .ne 7, 3, 56, 0, 0, 0, 0, 0, []), (52, .iconst 2, 1, 0, 0, 0, 0, 2, 0, []), (53, .goto 38, 3, 91, 0, 0, 0, 0, 0, []), (56, .aload_n 0, 1, 0, 0, 0, 0, 0, 0, []), (57, .getfield 7, 3, 5, 0, 610, 1, 0, 0, []), (60, .iload 4, 2, 0, 0, 0, 0, 0, 0, []), (62, .iload 6, 2, 0, 0, 0, 0, 0, 0, []), (64, .iconst 2, 1, 0, 0, 0, 0, 2, 0, []), (65, .invokestatic 47, 3, 100, 0, 692, 1, 0, 0, []), (68, .iaload, 1, 0, 0, 0, 0, 0, 0, []), (69, .aload_n 0, 1, 0, 0, 0, 0, 0, 0, []), (70, .getfield 7, 3, 5, 0, 610, 1, 0, 0, []), (73, .iload 5, 2, 0, 0, 0, 0, 0, 0, []), (75, .iload 7, 2, 0, 0, 0, 0, 0, 0, []), (77, .iconst 2, 1, 0, 0, 0, 0, 2, 0, []), (78, .invokestatic 47, 3, 100, 0, 692, 1, 0, 0, []), (81, .iaload, 1, 0, 0, 0, 0, 0, 0, []), (82, .iadd, 1, 0, 0, 0, 0, 0, 0, []), (83, .ifCond .le 7, 3, 90, 0, 0, 0, 0, 0, []), (86, .iconst 3, 1, 0, 0, 0, 0, 3, 0, []), (87, .goto 4, 3, 91, 0, 0, 0, 0, 0, []), (90, .iconst 0, 1, 0, 0, 0, 0, 0, 0, []), (91, .ireturn, 1, 0, 0, 0, 0, 0, 0, [])]
def am_t106 : List aI := [(0, .aload_n 0, 1, 0, 0, 0, 0, 0, 0, []), (1, .iload_n 1, 1, 0, 0, 0, 0, 0, 0, []), (2, .iload_n 2, 1, 0, 0, 0, 0, 0, 0, []), (3, .iload_n 3, 1, 0, 0, 0, 0, 0, 0, []), (4, .invokevirtual 67, 3, 105, 5, 757, 1, 0, 0, []), (7, .istore 4, 2, 0, 0, 0, 0, 0, 0, []), (9, .iload 4, 2, 0, 0, 0, 0, 0, 0, []), (11, .ifCond .le 8, 3, 19, 0, 0, 0, 0, 0, []), (14, .iload 4, 2, 0, 0, 0, 0, 0, 0, []), (16, .goto 18, 3, 34, 0, 0, 0, 0, 0, []), (19, .aload_n 0, 1, 0, 0, 0, 0, 0, 0, []), (20, .iload_n 1, 1, 0, 0, 0, 0, 0, 0, []), (21, .iload_n 2, 1, 0, 0, 0, 0, 0, 0, []), (22, .iconst 0, 1, 0, 0, 0, 0, 0, 0, []), (23, .invokevirtual 67, 3, 105, 5, 757, 1, 0, 0, []), (26, .ifCond .le 7, 3, 33, 0, 0, 0, 0, 0, []), (29, .iconst 4, 1, 0, 0, 0, 0, 4, 0, []), (30, .goto 4, 3, 34, 0, 0, 0, 0, 0, []), (33, .iconst 0, 1, 0, 0, 0, 0, 0, 0, []), (34, .ireturn, 1, 0, 0, 0, 0, 0, 0, [])]
def am_t107 : List aI := [(0, .iload_n 1, 1, 0, 0, 0, 0, 0, 0, []), (1, .iload_n 2, 1, 0, 0, 0, 0, 0, 0, []), (2, .iconst 0, 1, 0, 0, 0, 0, 0, 0, []), (3, .invokestatic 61, 3, 88, 0, 668, 1, 0, 0, []), (6, .istore 4, 2, 0, 0, 0, 0, 0, 0, []), (8, .iload_n 1, 1, 0, 0, 0, 0, 0, 0, []), (9, .iload_n 2, 1, 0, 0, 0, 0, 0, 0, []), (10, .iconst 1, 1, 0, 0, 0, 0, 1, 0, []), (11, .invokestatic 61, 3, 88, 0, 668, 1, 0, 0, []), (14, .istore 5, 2, 0, 0, 0, 0, 0, 0, []), (16, .aload_n 0, 1, 0, 0, 0, 0, 0, 0, []), (17, .iload 5, 2, 0, 0, 0, 0, 0, 0, []), (19, .aload_n 0, 1, 0, 0, 0, 0, 0, 0, []), (20, .iload 5, 2, 0, 0, 0, 0, 0, 0, []), (22, .iload_n 3, 1, 0, 0, 0, 0, 0, 0, []), (23, .invokevirtual 64, 3, 101, 5, 688, 1, 0, 0, []), (26, .invokevirtual 70, 3, 103, 5, 773, 1, 0, 0, []), (29, .ldc 46, 2, 0, 0, 716, 0, 648000, 0, []), (31, .isub, 1, 0, 0, 0, 0, 0, 0, []), (32, .aload_n 0, 1, 0, 0, 0, 0, 0, 0, []), (33, .iload 4, 2, 0, 0, 0, 0, 0, 0, []), (35, .aload_n 0, 1, 0, 0, 0, 0, 0, 0, []), (36, .iload 4, 2, 0, 0, 0, 0, 0, 0, []), (38, .iload_n 3, 1, 0, 0, 0, 0, 0, 0, []), (39, .invokevirtual 64, 3, 101, 5, 688, 1, 0, 0, []), (42, .invokevirtual 70, 3, 103, 5, 773, 1, 0, 0, []), (45, .isub, 1, 0, 0, 0, 0, 0, 0, []), (46, .invokestatic 52, 3, 98, 0, 709, 1, 0, 0, []), (49, .ireturn, 1, 0, 0, 0, 0, 0, 0, [])]
def am_t108 : List aI := [(0, .iload_n 1, 1, 0, 0, 0, 0, 0, 0, []), (1, .iload_n 2, 1, 0, 0, 0, 0, 0, 0, []), (2, .iconst 0, 1, 0, 0, 0, 0, 0, 0, []), (3, .invokestatic 61, 3, 88, 0, 668, 1, 0, 0, []), (6, .istore 4, 2, 0, 0, 0, 0, 0, 0, []), (8, .aload_n 0, 1, 0, 0, 0, 0, 0, 0, []), (9, .iload 4, 2, 0, 0, 0, 0, 0, 0, []), (11, .aload_n 0, 1, 0, 0, 0, 0, 0, 0, []), (12, .iload 4, 2, 0, 0, 0, 0, 0, 0, []), (14, .iload_n 3, 1, 0, 0, 0, 0, 0, 0, []), (15, .invokevirtual 64, 3, 101, 5, 688, 1, 0, 0, []), (18, .invokevirtual 70, 3, 103, 5, 773, 1, 0, 0, []), (21, .aload_n 0, 1, 0, 0, 0, 0, 0, 0, []), (22, .iload_n 1, 1, 0, 0, 0, 0, 0, 0, []), (23, .iload_n 2, 1, 0, 0, 0, 0, 0, 0, []), (24, .iload_n 3, 1, 0, 0, 0, 0, 0, 0, []), (25, .invokevirtual 73, 3, 107, 5, 780, 1, 0, 0, []), (28, .iconst 2, 1, 0, 0, 0, 0, 2, 0, []), (29, .invokestatic 58, 3, 96, 0, 777, 1, 0, 0, []), (32, .iadd, 1, 0, 0, 0, 0, 0, 0, []), (33, .ireturn, 1, 0, 0, 0, 0, 0, 0, [])]
def am_t109 : List aI := [(0, .aload_n 0, 1, 0, 0, 0, 0, 0, 0, []), (1, .iload_n 1, 1, 0, 0, 0, 0, 0, 0, []), (2, .iload_n 2, 1, 0, 0, 0, 0, 0, 0, []), (3, .iload_n 3, 1, 0, 0, 0, 0, 0, 0, []), (4, .invokevirtual 73, 3, 107, 5, 780, 1, 0, 0, []), (7, .ineg, 1, 0, 0, 0, 0, 0, 0, []), (8, .iconst 2, 1, 0, 0, 0, 0, 2, 0, []), (9, .invokestatic 58, 3, 96, 0, 777, 1, 0, 0, []), (12, .ireturn, 1, 0, 0, 0, 0, 0, 0, [])]
def am_t110 : List aI := [(0, .aload_n 0, 1, 0, 0, 0, 0, 0, 0, []), (1, .iload_n 1, 1, 0, 0, 0, 0, 0, 0, []), (2, .iload_n 2, 1, 0, 0, 0, 0, 0, 0, []), (3, .iload_n 3, 1, 0, 0, 0, 0, 0, 0, []), (4, .invokevirtual 76, 3, 108, 5, 769, 1, 0, 0, []), (7, .aload_n 0, 1, 0, 0, 0, 0, 0, 0, []), (8, .iload_n 1, 1, 0, 0, 0, 0, 0, 0, []), (9, .iload_n 2, 1, 0, 0, 0, 0, 0, 0, []), (10, .iconst 0, 1, 0, 0, 0, 0, 0, 0, []), (11, .invokevirtual 76, 3, 108, 5, 769, 1, 0, 0, []), (14, .isub, 1, 0, 0, 0, 0, 0, 0, []), (15, .invokestatic 42, 3, 97, 0, 712, 1, 0, 0, []), (18, .ireturn, 1, 0, 0, 0, 0, 0, 0, [])]
def am_t111 : List aI := [(0, .iconst 0, 1, 0, 0, 0, 0, 0, 0, []), (1, .istore_n 3, 1, 0, 0, 0, 0, 0, 0, []), (2, .iconst 0, 1, 0, 0, 0, 0, 0, 0, []), (3, .istore 4, 2, 0, 0, 0, 0, 0, 0, []), (5, .iload 4, 2, 0, 0, 0, 0, 0, 0, []), (7, .aload_n 0, 1, 0, 0, 0, 0, 0, 0, []), (8, .getfield 7, 3, 5, 0, 610, 1, 0, 0, []), (11, .iload_n 1, 1, 0, 0, 0, 0, 0, 0, []), (12, .iconst 0, 1, 0, 0, 0, 0, 0, 0, []), (13, .invokestatic 25, 3, 87, 0, 653, 1, 0, 0, []), (16, .iaload, 1, 0, 0, 0, 0, 0, 0, []), (17, .if_icmp .ge 31, 3, 48, 0, 0, 0, 0, 0, []), (20, .iload_n 3, 1, 0, 0, 0, 0, 0, 0, []), (21, .aload_n 0, 1, 0, 0, 0, 0, 0, 0, []), (22, .iload_n 1, 1, 0, 0, 0, 0, 0, 0, []), (23, .iload 4, 2, 0, 0, 0, 0, 0, 0, []), (25, .iload_n 2, 1, 0, 0, 0, 0, 0, 0, []), (26, .invokevirtual 79, 3, 106, 5, 753, 1, 0, 0, []), (29, .ifCond .ne 10, 3, 39, 0, 0, 0, 0, 0, []), (32, .iconst 1, 1, 0, 0, 0, 0, 1, 0, []), (33, .iload 4, 2, 0, 0, 0, 0, 0, 0, []), (35, .ishl, 1, 0, 0, 0, 0, 0, 0, []), (36, .goto 4, 3, 40, 0, 0, 0, 0, 0, []), (39, .iconst 0, 1, 0, 0, 0, 0, 0, 0, []), (40, .ior, 1, 0, 0, 0, 0, 0, 0, []), (41, .istore_n 3, 1, 0, 0, 0, 0, 0, 0, []), (42, .iinc 4 1, 3, 0, 0, 0, 0, 1, 0, []), (45, .goto (-40), 3, 5, 0, 0, 0, 0, 0, []), (48, .iload_n 3, 1, 0, 0, 0, 0, 0, 0, []), (49, .ireturn, 1, 0, 0, 0, 0, 0, 0, [])]
def am_t112 : List aI := [(0, .ldc 51, 2, 0, 0, 695, 0, (-2000005), 0, []), (2, .istore_n 3, 1, 0, 0, 0, 0, 0, 0, []), (3, .iconst 0, 1, 0, 0, 0, 0, 0, 0, []), (4, .istore 4, 2, 0, 0, 0, 0, 0, 0, []), (6, .iconst 0, 1, 0, 0, 0, 0, 0, 0, []), (7, .istore 5, 2, 0, 0, 0, 0, 0, 0, []), (9, .iconst 0, 1, 0, 0, 0, 0, 0, 0, []), (10, .istore 6, 2, 0, 0, 0, 0, 0, 0, []), (12, .iload 6, 2, 0, 0, 0, 0, 0, 0, []), (14, .aload_n 0, 1, 0, 0, 0, 0, 0, 0, []), (15, .getfield 7, 3, 5, 0, 610, 1, 0, 0, []), (18, .iload_n 1, 1, 0, 0, 0, 0, 0, 0, []), (19, .iconst 0, 1, 0, 0, 0, 0, 0, 0, []), (20, .invokestatic 25, 3, 87, 0, 653, 1, 0, 0, []), (23, .iaload, 1, 0, 0, 0, 0, 0, 0, []), (24, .if_icmp .ge 58, 3, 82, 0, 0, 0, 0, 0, []), (27, .aload_n 0, 1, 0, 0, 0, 0, 0, 0, []), (28, .iload_n 1, 1, 0, 0, 0, 0, 0, 0, []), (29, .iload 6, 2, 0, 0, 0, 0, 0, 0, []), (31, .iload_n 2, 1, 0, 0, 0, 0, 0, 0, []), (32, .invokevirtual 79, 3, 106, 5, 753, 1, 0, 0, []), (35, .ifCond .ne 41, 3, 76, 0, 0, 0, 0, 0, []), (38, .aload_n 0, 1, 0, 0, 0, 0, 0, 0, []), (39, .iload_n 1, 1, 0, 0, 0, 0, 0, 0, []), (40, .iload 6, 2, 0, 0, 0, 0, 0, 0, []), (42, .iload_n 2, 1, 0, 0, 0, 0, 0, 0, []), (43, .invokevirtual 82, 3, 110, 5, 765, 1, 0, 0, []), (46, .istore 7, 2, 0, 0, 0, 0, 0, 0, []), (48, .iload_n 3, 1, 0, 0, 0, 0, 0, 0, []), (49, .ldc 51, 2, 0, 0, 695, 0, (-2000005), 0, []), (51, .if_icmp .ne 8, 3, 59, 0, 0, 0, 0, 0, []), (54, .iload 7, 2, 0, 0, 0, 0, 0, 0, []), (56, .goto 4, 3, 60, 0, 0, 0, 0, 0, []), (59, .iload_n 3, 1, 0, 0, 0, 0, 0, 0, []), (60, .istore_n 3, 1, 0, 0, 0, 0, 0, 0, []), (61, .iload 4, 2, 0, 0, 0, 0, 0, 0, []), (63, .iload 7, 2, 0, 0, 0, 0, 0, 0, []), (65, .iload_n 3, 1, 0, 0, 0, 0, 0, 0, []), (66, .isub, 1, 0, 0, 0, 0, 0, 0, []), (67, .invokestatic 52, 3, 98, 0, 709, 1, 0, 0, []), (70, .iadd, 1, 0, 0, 0, 0, 0, 0, []), (71, .istore 4, 2, 0, 0, 0, 0, 0, 0, []), (73, .iinc 5 1, 3, 0, 0, 0, 0, 1, 0, []), (76, .iinc 6 1, 3, 0, 0, 0, 0, 1, 0, []), (79, .goto (-67), 3, 12, 0, 0, 0, 0, 0, []), (82, .iload 5, 2, 0, 0, 0, 0, 0, 0, []), (84, .ifCond .ne 8, 3, 92, 0, 0, 0, 0, 0, []), (87, .ldc 51, 2, 0, 0, 695, 0, (-2000005), 0, []), (89, .goto 15, 3, 104, 0, 0, 0, 0, 0, []), (92, .iload_n 3, 1, 0, 0, 0, 0, 0, 0, []), (93, .iload 4, 2, 0, 0, 0, 0, 0, 0, []), (95, .iload 5, 2, 0, 0, 0, 0, 0, 0, []), (97, .invokestatic 58, 3, 96, 0, 777, 1, 0, 0, []), (100, .iadd, 1, 0, 0, 0, 0, 0, 0, []), (101, .invokestatic 42, 3, 97, 0, 712, 1, 0, 0, []), (104, .ireturn, 1, 0, 0, 0, 0, 0, 0, [])]
def am_t113 : List aI := [(0, .aload_n 0, 1, 0, 0, 0, 0, 0, 0, []), (1, .iload_n 1, 1, 0, 0, 0, 0, 0, 0, []), (2, .iload_n 2, 1, 0, 0, 0, 0, 0, 0, []), (3, .iload_n 3, 1, 0, 0, 0, 0, 0, 0, []), (4, .invokevirtual 82, 3, 110, 5, 765, 1, 0, 0, []), (7, .aload_n 0, 1, 0, 0, 0, 0, 0, 0, []), (8, .iload_n 1, 1, 0, 0, 0, 0, 0, 0, []), (9, .iload_n 3, 1, 0, 0, 0, 0, 0, 0, []), (10, .invokevirtual 85, 3, 112, 5, 784, 1, 0, 0, []), (13, .isub, 1, 0, 0, 0, 0, 0, 0, []), (14, .invokestatic 52, 3, 98, 0, 709, 1, 0, 0, []), (17, .ireturn, 1, 0, 0, 0, 0, 0, 0, [])]
def am_t114 : List aI := [(0, .aload_n 0, 1, 0, 0, 0, 0, 0, 0, []), (1, .iload_n 1, 1, 0, 0, 0, 0, 0, 0, []), (2, .iload_n 2, 1, 0, 0, 0, 0, 0, 0, []), (3, .iload_n 3, 1, 0, 0, 0, 0, 0, 0, []), (4, .invokevirtual 79, 3, 106, 5, 753, 1, 0, 0, []), (7, .ifCond .ne 26, 3, 33, 0, 0, 0, 0, 0, []), (10, .aload_n 0, 1, 0, 0, 0, 0, 0, 0, []), (11, .iload_n 1, 1, 0, 0, 0, 0, 0, 0, []), (12, .iload_n 2, 1, 0, 0, 0, 0, 0, 0, []), (13, .iload_n 3, 1, 0, 0, 0, 0, 0, 0, []), (14, .invokevirtual 88, 3, 113, 5, 761, 1, 0, 0, []), (17, .invokestatic 91, 3, 99, 0, 788, 1, 0, 0, []), (20, .aload_n 0, 1, 0, 0, 0, 0, 0, 0, []), (21, .getfield 7, 3, 5, 0, 610, 1, 0, 0, []), (24, .iconst 1, 1, 0, 0, 0, 0, 1, 0, []), (25, .iaload, 1, 0, 0, 0, 0, 0, 0, []), (26, .if_icmp .le 7, 3, 33, 0, 0, 0, 0, 0, []), (29, .iconst 1, 1, 0, 0, 0, 0, 1, 0, []), (30, .goto 4, 3, 34, 0, 0, 0, 0, 0, []), (33, .iconst 0, 1, 0, 0, 0, 0, 0, 0, []), (34, .ireturn, 1, 0, 0, 0, 1, 0, 0, [])]
def am_t115 : List aI := [(0, .iconst 0, 1, 0, 0, 0, 0, 0, 0, []), (1, .istore_n 3, 1, 0, 0, 0, 0, 0, 0, []), (2, .iconst 0, 1, 0, 0, 0, 0, 0, 0, []), (3, .istore 4, 2, 0, 0, 0, 0, 0, 0, []), (5, .iload 4, 2, 0, 0, 0, 0, 0, 0, []), (7, .bipush 6, 2, 0, 0, 0, 0, 6, 0, []), (9, .if_icmp .ge 31, 3, 40, 0, 0, 0, 0, 0, []), (12, .iload_n 3, 1, 0, 0, 0, 0, 0, 0, []), (13, .aload_n 0, 1, 0, 0, 0, 0, 0, 0, []), (14, .iload_n 1, 1, 0, 0, 0, 0, 0, 0, []), (15, .iload_n 2, 1, 0, 0, 0, 0, 0, 0, []), (16, .iload 4, 2, 0, 0, 0, 0, 0, 0, []), (18, .invokevirtual 94, 3, 114, 5, 749, 1, 0, 0, []), (21, .ifCond .eq 10, 3, 31, 0, 0, 0, 0, 0, []), (24, .iconst 1, 1, 0, 0, 0, 0, 1, 0, []), (25, .iload 4, 2, 0, 0, 0, 0, 0, 0, []), (27, .ishl, 1, 0, 0, 0, 0, 0, 0, []), (28, .goto 4, 3, 32, 0, 0, 0, 0, 0, []), (31, .iconst 0, 1, 0, 0, 0, 0, 0, 0, []), (32, .ior, 1, 0, 0, 0, 0, 0, 0, []), (33, .istore_n 3, 1, 0, 0, 0, 0, 0, 0, []), (34, .iinc 4 1, 3, 0, 0, 0, 0, 1, 0, []), (37, .goto (-32), 3, 5, 0, 0, 0, 0, 0, []), (40, .iload_n 3, 1, 0, 0, 0, 0, 0, 0, []), (41, .ireturn, 1, 0, 0, 0, 0, 0, 0, [])]
def am_t116 : List aI := [(0, .aload_n 0, 1, 0, 0, 0, 0, 0, 0, []), (1, .getfield 7, 3, 5, 0, 610, 1, 0, 0, []), (4, .iconst 0, 1, 0, 0, 0, 0, 0, 0, []), (5, .iaload, 1, 0, 0, 0, 0, 0, 0, []), (6, .iconst 4, 1, 0, 0, 0, 0, 4, 0, []), (7, .if_icmp .ne 6, 3, 13, 0, 0, 0, 0, 0, []), (10, .ldc 97, 2, 0, 0, 648, 0, (-2000003), 0, []), (12, .ireturn, 1, 0, 0, 0, 0, 0, 0, []), (13, .aload_n 0, 1, 0, 0, 0, 0, 0, 0, []), (14, .invokevirtual 98, 3, 92, 5, 649, 0, 0, 0, []), (17, .aload_n 0, 1, 0, 0, 0, 0, 0, 0, []), (18, .getfield 7, 3, 5, 0, 610, 1, 0, 0, []), (21, .iconst 0, 1, 0, 0, 0, 0, 0, 0, []), (22, .iaload, 1, 0, 0, 0, 0, 0, 0, []), (23, .istore_n 1, 1, 0, 0, 0, 0, 0, 0, []), (24, .iconst 0, 1, 0, 0, 0, 0, 0, 0, []), (25, .istore_n 2, 1, 0, 0, 0, 0, 0, 0, []), (26, .iload_n 2, 1, 0, 0, 0, 0, 0, 0, []), (27, .sipush 255, 3, 0, 0, 0, 0, 255, 0, []), (30, .if_icmp .ge 20, 3, 50, 0, 0, 0, 0, 0, []), (33, .aload_n 0, 1, 0, 0, 0, 0, 0, 0, []), (34, .getfield 7, 3, 5, 0, 610, 1, 0, 0, []), (37, .iload_n 1, 1, 0, 0, 0, 0, 0, 0, []), (38, .iload_n 2, 1, 0, 0, 0, 0, 0, 0, []), (39, .invokestatic 25, 3, 87, 0, 653, 1, 0, 0, []), (42, .iconst 0, 1, 0, 0, 0, 0, 0, 0, []), (43, .iastore, 1, 0, 0, 0, 0, 0, 0, []), (44, .iinc 2 1, 3, 0, 0, 0, 0, 1, 0, []), (47, .goto (-21), 3, 26, 0, 0, 0, 0, 0, []), (50, .aload_n 0, 1, 0, 0, 0, 0, 0, 0, []), (51, .getfield 7, 3, 5, 0, 610, 1, 0, 0, []), (54, .iconst 0, 1, 0, 0, 0, 0, 0, 0, []), (55, .dup2, 1, 0, 0, 0, 0, 0, 0, []), (56, .iaload, 1, 0, 0, 0, 0, 0, 0, []), (57, .iconst 1, 1, 0, 0, 0, 0, 1, 0, []), (58, .iadd, 1, 0, 0, 0, 0, 0, 0, []), (59, .iastore, 1, 0, 0, 0, 0, 0, 0, []), (60, .iload_n 1, 1, 0, 0, 0, 0, 0, 0, []), (61, .ireturn, 1, 0, 0, 0, 0, 0, 0, [])]
def am_t117 : List aI := [(0, .aload_n 0, 1, 0, 0, 0, 0, 0, 0, []), (1, .iload_n 1, 1, 0, 0, 0, 0, 0, 0, []), (2, .invokevirtual 33, 3, 89, 5, 660, 1, 0, 0, []), (5, .ifCond .ne 6, 3, 11, 0, 0, 0, 0, 0, []), (8, .ldc 101, 2, 0, 0, 667, 0, (-2000001), 0, []), (10, .ireturn, 1, 0, 0, 0, 0, 0, 0, []), (11, .aload_n 0, 1, 0, 0, 0, 0, 0, 0, []), (12, .getfield 7, 3, 5, 0, 610, 1, 0, 0, []), (15, .iload_n 1, 1, 0, 0, 0, 0, 0, 0, []), (16, .iconst 0, 1, 0, 0, 0, 0, 0, 0, []), (17, .invokestatic 25, 3, 87, 0, 653, 1, 0, 0, []), (20, .iaload, 1, 0, 0, 0, 0, 0, 0, []), (21, .istore_n 2, 1, 0, 0, 0, 0, 0, 0, []), (22, .iload_n 2, 1, 0, 0, 0, 0, 0, 0, []), (23, .bipush 6, 2, 0, 0, 0, 0, 6, 0, []), (25, .if_icmp .ne 6, 3, 31, 0, 0, 0, 0, 0, []), (28, .ldc 97, 2, 0, 0, 648, 0, (-2000003), 0, []), (30, .ireturn, 1, 0, 0, 0, 0, 0, 0, []), (31, .aload_n 0, 1, 0, 0, 0, 0, 0, 0, []), (32, .invokevirtual 98, 3, 92, 5, 649, 0, 0, 0, []), (35, .iconst 0, 1, 0, 0, 0, 0, 0, 0, []), (36, .istore_n 3, 1, 0, 0, 0, 0, 0, 0, []), (37, .iload_n 3, 1, 0, 0, 0, 0, 0, 0, []), (38, .bipush 42, 2, 0, 0, 0, 0, 42, 0, []), (40, .if_icmp .ge 23, 3, 63, 0, 0, 0, 0, 0, []), (43, .aload_n 0, 1, 0, 0, 0, 0, 0, 0, []), (44, .getfield 7, 3, 5, 0, 610, 1, 0, 0, []), (47, .iload_n 1, 1, 0, 0, 0, 0, 0, 0, []), (48, .iload_n 2, 1, 0, 0, 0, 0, 0, 0, []), (49, .iconst 0, 1, 0, 0, 0, 0, 0, 0, []), (50, .invokestatic 61, 3, 88, 0, 668, 1, 0, 0, []), (53, .iload_n 3, 1, 0, 0, 0, 0, 0, 0, []), (54, .iadd, 1, 0, 0, 0, 0, 0, 0, []), (55, .iconst 0, 1, 0, 0, 0, 0, 0, 0, []), (56, .iastore, 1, 0, 0, 0, 0, 0, 0, []), (57, .iinc 3 1, 3, 0, 0, 0, 0, 1, 0, []), (60, .goto (-23), 3, 37, 0, 0, 0, 0, 0, []), (63, .aload_n 0, 1, 0, 0, 0, 0, 0, 0, []), (64, .getfield 7, 3, 5, 0, 610, 1, 0, 0, []), (67, .iload_n 1, 1, 0, 0, 0, 0, 0, 0, []), (68, .iconst 0, 1, 0, 0, 0, 0, 0, 0, []), (69, .invokestatic 25, 3, 87, 0, 653, 1, 0, 0, []), (72, .dup2, 1, 0, 0, 0, 0, 0, 0, []), (73, .iaload, 1, 0, 0, 0, 0, 0, 0, []), (74, .iconst 1, 1, 0, 0, 0, 0, 1, 0, []), (75, .iadd, 1, 0, 0, 0, 0, 0, 0, []), (76, .iastore, 1, 0, 0, 0, 0, 0, 0, []), (77, .iload_n 2, 1, 0, 0, 0, 0, 0, 0, []), (78, .ireturn, 1, 0, 0, 0, 0, 0, 0, [])]
def am_t118 : List aI := [(0, .aload_n 0, 1, 0, 0, 0, 0, 0, 0, []), (1, .iload_n 1, 1, 0, 0, 0, 0, 0, 0, []), (2, .iload_n 2, 1, 0, 0, 0, 0, 0, 0, []), (3, .invokevirtual 64, 3, 101, 5, 688, 1, 0, 0, []), (6, .ldc 51, 2, 0, 0, 695, 0, (-2000005), 0, []), (8, .if_icmp .ne 18, 3, 26, 0, 0, 0, 0, 0, []), (11, .aload_n 0, 1, 0, 0, 0, 0, 0, 0, []), (12, .getfield 7, 3, 5, 0, 610, 1, 0, 0, []), (15, .iload_n 1, 1, 0, 0, 0, 0, 0, 0, []), (16, .iconst 1, 1, 0, 0, 0, 0, 1, 0, []), (17, .iadd, 1, 0, 0, 0, 0, 0, 0, []), (18, .iaload, 1, 0, 0, 0, 0, 0, 0, []), (19, .ifCond .ne 7, 3, 26, 0, 0, 0, 0, 0, []), (22, .iconst 1, 1, 0, 0, 0, 0, 1, 0, []), (23, .goto 4, 3, 27, 0, 0, 0, 0, 0, []), (26, .iconst 0, 1, 0, 0, 0, 0, 0, 0, []), (27, .ireturn, 1, 0, 0, 0, 1, 0, 0, [])]
def am_t119 : List aI := [(0, .aload_n 0, 1, 0, 0, 0, 0, 0, 0, []), (1, .getfield 7, 3, 5, 0, 610, 1, 0, 0, []), (4, .iload_n 1, 1, 0, 0, 0, 0, 0, 0, []), (5, .iconst 0, 1, 0, 0, 0, 0, 0, 0, []), (6, .iadd, 1, 0, 0, 0, 0, 0, 0, []), (7, .iaload, 1, 0, 0, 0, 0, 0, 0, []), (8, .istore 4, 2, 0, 0, 0, 0, 0, 0, []), (10, .aload_n 0, 1, 0, 0, 0, 0, 0, 0, []), (11, .getfield 7, 3, 5, 0, 610, 1, 0, 0, []), (14, .iload_n 1, 1, 0, 0, 0, 0, 0, 0, []), (15, .iload 4, 2, 0, 0, 0, 0, 0, 0, []), (17, .iconst 0, 1, 0, 0, 0, 0, 0, 0, []), (18, .invokestatic 47, 3, 100, 0, 692, 1, 0, 0, []), (21, .iload_n 2, 1, 0, 0, 0, 0, 0, 0, []), (22, .iastore, 1, 0, 0, 0, 0, 0, 0, []), (23, .aload_n 0, 1, 0, 0, 0, 0, 0, 0, []), (24, .getfield 7, 3, 5, 0, 610, 1, 0, 0, []), (27, .iload_n 1, 1, 0, 0, 0, 0, 0, 0, []), (28, .iload 4, 2, 0, 0, 0, 0, 0, 0, []), (30, .iconst 1, 1, 0, 0, 0, 0, 1, 0, []), (31, .invokestatic 47, 3, 100, 0, 692, 1, 0, 0, []), (34, .iload_n 3, 1, 0, 0, 0, 0, 0, 0, []), (35, .iastore, 1, 0, 0, 0, 0, 0, 0, []), (36, .aload_n 0, 1, 0, 0, 0, 0, 0, 0, []), (37, .getfield 7, 3, 5, 0, 610, 1, 0, 0, []), (40, .iload_n 1, 1, 0, 0, 0, 0, 0, 0, []), (41, .iload 4, 2, 0, 0, 0, 0, 0, 0, []), (43, .iconst 2, 1, 0, 0, 0, 0, 2, 0, []), (44, .invokestatic 47, 3, 100, 0, 692, 1, 0, 0, []), (47, .iconst 0, 1, 0, 0, 0, 0, 0, 0, []), (48, .iastore, 1, 0, 0, 0, 0, 0, 0, []), (49, .aload_n 0, 1, 0, 0, 0, 0, 0, 0, []), (50, .getfield 7, 3, 5, 0, 610, 1, 0, 0, []), (53, .iload_n 1, 1, 0, 0, 0, 0, 0, 0, []), (54, .iconst 0, 1, 0, 0, 0, 0, 0, 0, []), (55, .iadd, 1, 0, 0, 0, 0, 0, 0, []), (56, .dup2, 1, 0, 0, 0, 0, 0, 0, []), (57, .iaload, 1, 0, 0, 0, 0, 0, 0, []), (58, .iconst 1, 1, 0, 0, 0, 0, 1, 0, []), (59, .iadd, 1, 0, 0, 0, 0, 0, 0, []), (60, .iastore, 1, 0, 0, 0, 0, 0, 0, []), (61, .aload_n 0, 1, 0, 0, 0, 0, 0, 0, []), (62, .getfield 7, 3, 5, 0, 610, 1, 0, 0, []), (65, .iload_n 1, 1, 0, 0, 0, 0, 0, 0, []), (66, .iconst 0, 1, 0, 0, 0, 0, 0, 0, []), (67, .iadd, 1, 0, 0, 0, 0, 0, 0, []), (68, .iaload, 1, 0, 0, 0, 0, 0, 0, []), (69, .ireturn, 1, 0, 0, 0, 0, 0, 0, [])]
def am_t120 : List aI := [(0, .aload_n 0, 1, 0, 0, 0, 0, 0, 0, []), (1, .iload_n 1, 1, 0, 0, 0, 0, 0, 0, []), (2, .iload_n 2, 1, 0, 0, 0, 0, 0, 0, []), (3, .invokevirtual 102, 3, 90, 5, 675, 1, 0, 0, []), (6, .ifCond .eq 10, 3, 16, 0, 0, 0, 0, 0, []), (9, .iload_n 3, 1, 0, 0, 0, 0, 0, 0, []), (10, .invokestatic 106, 3, 91, 0, 679, 1, 0, 0, []), (13, .ifCond .ne 6, 3, 19, 0, 0, 0, 0, 0, []), (16, .ldc 101, 2, 0, 0, 667, 0, (-2000001), 0, []), (18, .ireturn, 1, 0, 0, 0, 0, 0, 0, []), (19, .iload 4, 2, 0, 0, 0, 0, 0, 0, []), (21, .iconst 0, 1, 0, 0, 0, 0, 0, 0, []), (22, .iconst 1, 1, 0, 0, 0, 0, 1, 0, []), (23, .invokestatic 29, 3, 86, 0, 664, 1, 0, 0, []), (26, .ifCond .eq 14, 3, 40, 0, 0, 0, 0, 0, []), (29, .iload 5, 2, 0, 0, 0, 0, 0, 0, []), (31, .iconst 0, 1, 0, 0, 0, 0, 0, 0, []), (32, .ldc 109, 2, 0, 0, 682, 0, 1295999, 0, []), (34, .invokestatic 29, 3, 86, 0, 664, 1, 0, 0, []), (37, .ifCond .ne 6, 3, 43, 0, 0, 0, 0, 0, []), (40, .ldc 110, 2, 0, 0, 683, 0, (-2000002), 0, []), (42, .ireturn, 1, 0, 0, 0, 0, 0, 0, []), (43, .aload_n 0, 1, 0, 0, 0, 0, 0, 0, []), (44, .iload_n 1, 1, 0, 0, 0, 0, 0, 0, []), (45, .iload_n 2, 1, 0, 0, 0, 0, 0, 0, []), (46, .iload 4, 2, 0, 0, 0, 0, 0, 0, []), (48, .invokestatic 61, 3, 88, 0, 668, 1, 0, 0, []), (51, .iload_n 3, 1, 0, 0, 0, 0, 0, 0, []), (52, .invokevirtual 111, 3, 118, 5, 684, 1, 0, 0, []), (55, .ifCond .ne 6, 3, 61, 0, 0, 0, 0, 0, []), (58, .ldc 114, 2, 0, 0, 696, 0, (-2000004), 0, []), (60, .ireturn, 1, 0, 0, 0, 0, 0, 0, []), (61, .aload_n 0, 1, 0, 0, 0, 0, 0, 0, []), (62, .invokevirtual 98, 3, 92, 5, 649, 0, 0, 0, []), (65, .aload_n 0, 1, 0, 0, 0, 0, 0, 0, []), (66, .iload_n 1, 1, 0, 0, 0, 0, 0, 0, []), (67, .iload_n 2, 1, 0, 0, 0, 0, 0, 0, []), (68, .iload 4, 2, 0, 0, 0, 0, 0, 0, []), (70, .invokestatic 61, 3, 88, 0, 668, 1, 0, 0, []), (73, .iload_n 3, 1, 0, 0, 0, 0, 0, 0, []), (74, .iload 5, 2, 0, 0, 0, 0, 0, 0, []), (76, .invokevirtual 115, 3, 119, 5, 697, 1, 0, 0, []), (79, .ireturn, 1, 0, 0, 0, 0, 0, 0, [])]
def am_t121 : List aI := [(0, .aload_n 0, 1, 0, 0, 0, 0, 0, 0, []), (1, .iload_n 1, 1, 0, 0, 0, 0, 0, 0, []), (2, .iload_n 2, 1, 0, 0, 0, 0, 0, 0, []), (3, .invokevirtual 102, 3, 90, 5, 675, 1, 0, 0, []), (6, .ifCond .ne 6, 3, 12, 0, 0, 0, 0, 0, []), (9, .ldc 101, 2, 0, 0, 667, 0, (-2000001), 0, []), (11, .ireturn, 1, 0, 0, 0, 0, 0, 0, []), (12, .iload_n 3, 1, 0, 0, 0, 0, 0, 0, []), (13, .iconst 0, 1, 0, 0, 0, 0, 0, 0, []), (14, .iconst 1, 1, 0, 0, 0, 0, 1, 0, []), (15, .invokestatic 29, 3, 86, 0, 664, 1, 0, 0, []), (18, .ifCond .eq 14, 3, 32, 0, 0, 0, 0, 0, []), (21, .iload 4, 2, 0, 0, 0, 0, 0, 0, []), (23, .iconst 0, 1, 0, 0, 0, 0, 0, 0, []), (24, .ldc 109, 2, 0, 0, 682, 0, 1295999, 0, []), (26, .invokestatic 29, 3, 86, 0, 664, 1, 0, 0, []), (29, .ifCond .ne 6, 3, 35, 0, 0, 0, 0, 0, []), (32, .ldc 110, 2, 0, 0, 683, 0, (-2000002), 0, []), (34, .ireturn, 1, 0, 0, 0, 0, 0, 0, []), (35, .iload_n 1, 1, 0, 0, 0, 0, 0, 0, []), (36, .iload_n 2, 1, 0, 0, 0, 0, 0, 0, []), (37, .iload_n 3, 1, 0, 0, 0, 0, 0, 0, []), (38, .invokestatic 61, 3, 88, 0, 668, 1, 0, 0, []), (41, .istore 5, 2, 0, 0, 0, 0, 0, 0, []), (43, .aload_n 0, 1, 0, 0, 0, 0, 0, 0, []), (44, .getfield 7, 3, 5, 0, 610, 1, 0, 0, []), (47, .iload 5, 2, 0, 0, 0, 0, 0, 0, []), (49, .iconst 1, 1, 0, 0, 0, 0, 1, 0, []), (50, .iadd, 1, 0, 0, 0, 0, 0, 0, []), (51, .iaload, 1, 0, 0, 0, 0, 0, 0, []), (52, .iconst 1, 1, 0, 0, 0, 0, 1, 0, []), (53, .if_icmp .eq 15, 3, 68, 0, 0, 0, 0, 0, []), (56, .aload_n 0, 1, 0, 0, 0, 0, 0, 0, []), (57, .getfield 7, 3, 5, 0, 610, 1, 0, 0, []), (60, .iload 5, 2, 0, 0, 0, 0, 0, 0, []), (62, .iconst 0, 1, 0, 0, 0, 0, 0, 0, []), (63, .iadd, 1, 0, 0, 0, 0, 0, 0, []), (64, .iaload, 1, 0, 0, 0, 0, 0, 0, []), (65, .ifCond .ne 6, 3, 71, 0, 0, 0, 0, 0, []), (68, .ldc 114, 2, 0, 0, 696, 0, (-2000004), 0, []), (70, .ireturn, 1, 0, 0, 0, 0, 0, 0, []), (71, .aload_n 0, 1, 0, 0, 0, 0, 0, 0, []), (72, .invokevirtual 98, 3, 92, 5, 649, 0, 0, 0, []), (75, .aload_n 0, 1, 0, 0, 0, 0, 0, 0, []), (76, .getfield 7, 3, 5, 0, 610, 1, 0, 0, []), (79, .iload 5, 2, 0, 0, 0, 0, 0, 0, []), (81, .iconst 1, 1, 0, 0, 0, 0, 1, 0, []), (82, .iadd, 1, 0, 0, 0, 0, 0, 0, []), (83, .iconst 1, 1, 0, 0, 0, 0, 1, 0, []), (84, .iastore, 1, 0, 0, 0, 0, 0, 0, []), (85, .aload_n 0, 1, 0, 0, 0, 0, 0, 0, []), (86, .getfield 7, 3, 5, 0, 610, 1, 0, 0, []), (89, .iload 5, 2, 0, 0, 0, 0, 0, 0, []), (91, .iconst 2, 1, 0, 0, 0, 0, 2, 0, []), (92, .iadd, 1, 0, 0, 0, 0, 0, 0, []), (93, .iload 4, 2, 0, 0, 0, 0, 0, 0, []), (95, .iastore, 1, 0, 0, 0, 0, 0, 0, []), (96, .aload_n 0, 1, 0, 0, 0, 0, 0, 0, []), (97, .iload 5, 2, 0, 0, 0, 0, 0, 0, []), (99, .invokevirtual 55, 3, 102, 5, 705, 1, 0, 0, []), (102, .ireturn, 1, 0, 0, 0, 0, 0, 0, [])]
def am_t122 : List aI := [(0, .aload_n 0, 1, 0, 0, 0, 0, 0, 0, []), (1, .iload_n 1, 1, 0, 0, 0, 0, 0, 0, []), (2, .iload_n 2, 1, 0, 0, 0, 0, 0, 0, []), (3, .iconst 0, 1, 0, 0, 0, 0, 0, 0, []), (4, .invokestatic 61, 3, 88, 0, 668, 1, 0, 0, []), (7, .invokevirtual 118, 3, 104, 5, 725, 1, 0, 0, []), (10, .aload_n 0, 1, 0, 0, 0, 0, 0, 0, []), (11, .iload_n 1, 1, 0, 0, 0, 0, 0, 0, []), (12, .iload_n 2, 1, 0, 0, 0, 0, 0, 0, []), (13, .iconst 1, 1, 0, 0, 0, 0, 1, 0, []), (14, .invokestatic 61, 3, 88, 0, 668, 1, 0, 0, []), (17, .invokevirtual 118, 3, 104, 5, 725, 1, 0, 0, []), (20, .iadd, 1, 0, 0, 0, 0, 0, 0, []), (21, .ireturn, 1, 0, 0, 0, 0, 0, 0, [])]
def am_t123 : List aI := [(0, .aload_n 0, 1, 0, 0, 0, 0, 0, 0, []), (1, .iload_n 1, 1, 0, 0, 0, 0, 0, 0, []), (2, .iload_n 2, 1, 0, 0, 0, 0, 0, 0, []), (3, .invokevirtual 102, 3, 90, 5, 675, 1, 0, 0, []), (6, .ifCond .ne 6, 3, 12, 0, 0, 0, 0, 0, []), (9, .ldc 101, 2, 0, 0, 667, 0, (-2000001), 0, []), (11, .ireturn, 1, 0, 0, 0, 0, 0, 0, []), (12, .iload 4, 2, 0, 0, 0, 0, 0, 0, []), (14, .iconst 0, 1, 0, 0, 0, 0, 0, 0, []), (15, .iconst 1, 1, 0, 0, 0, 0, 1, 0, []), (16, .invokestatic 29, 3, 86, 0, 664, 1, 0, 0, []), (19, .ifCond .ne 6, 3, 25, 0, 0, 0, 0, 0, []), (22, .ldc 110, 2, 0, 0, 683, 0, (-2000002), 0, []), (24, .ireturn, 1, 0, 0, 0, 0, 0, 0, []), (25, .iload_n 1, 1, 0, 0, 0, 0, 0, 0, []), (26, .iload_n 2, 1, 0, 0, 0, 0, 0, 0, []), (27, .iload 4, 2, 0, 0, 0, 0, 0, 0, []), (29, .invokestatic 61, 3, 88, 0, 668, 1, 0, 0, []), (32, .istore 6, 2, 0, 0, 0, 0, 0, 0, []), (34, .aload_n 0, 1, 0, 0, 0, 0, 0, 0, []), (35, .iload 6, 2, 0, 0, 0, 0, 0, 0, []), (37, .iload_n 3, 1, 0, 0, 0, 0, 0, 0, []), (38, .invokevirtual 64, 3, 101, 5, 688, 1, 0, 0, []), (41, .istore 7, 2, 0, 0, 0, 0, 0, 0, []), (43, .iload 7, 2, 0, 0, 0, 0, 0, 0, []), (45, .ldc 51, 2, 0, 0, 695, 0, (-2000005), 0, []), (47, .if_icmp .ne 6, 3, 53, 0, 0, 0, 0, 0, []), (50, .ldc 101, 2, 0, 0, 667, 0, (-2000001), 0, []), (52, .ireturn, 1, 0, 0, 0, 0, 0, 0, []), (53, .aload_n 0, 1, 0, 0, 0, 0, 0, 0, []), (54, .getfield 7, 3, 5, 0, 610, 1, 0, 0, []), (57, .iload 6, 2, 0, 0, 0, 0, 0, 0, []), (59, .iload 7, 2, 0, 0, 0, 0, 0, 0, []), (61, .iconst 2, 1, 0, 0, 0, 0, 2, 0, []), (62, .invokestatic 47, 3, 100, 0, 692, 1, 0, 0, []), (65, .iaload, 1, 0, 0, 0, 0, 0, 0, []), (66, .iconst 1, 1, 0, 0, 0, 0, 1, 0, []), (67, .if_icmp .ne 7, 3, 74, 0, 0, 0, 0, 0, []), (70, .iconst 1, 1, 0, 0, 0, 0, 1, 0, []), (71, .goto 4, 3, 75, 0, 0, 0, 0, 0, []), (74, .iconst 0, 1, 0, 0, 0, 0, 0, 0, []), (75, .iload 5, 2, 0, 0, 0, 0, 0, 0, []), (77, .if_icmp .ne 6, 3, 83, 0, 0, 0, 0, 0, []), (80, .ldc 51, 2, 0, 0, 695, 0, (-2000005), 0, []), (82, .ireturn, 1, 0, 0, 0, 0, 0, 0, []), (83, .aload_n 0, 1, 0, 0, 0, 0, 0, 0, []), (84, .invokevirtual 98, 3, 92, 5, 649, 0, 0, 0, []), (87, .aload_n 0, 1, 0, 0, 0, 0, 0, 0, []), (88, .getfield 7, 3, 5, 0, 610, 1, 0, 0, []), (91, .iload 6, 2, 0, 0, 0, 0, 0, 0, []), (93, .iload 7, 2, 0, 0, 0, 0, 0, 0, []), (95, .iconst 2, 1, 0, 0, 0, 0, 2, 0, []), (96, .invokestatic 47, 3, 100, 0, 692, 1, 0, 0, []), (99, .iload 5, 2, 0, 0, 0, 0, 0, 0, []), (101, .ifCond .eq 7, 3, 108, 0, 0, 0, 0, 0, []), (104, .iconst 1, 1, 0, 0, 0, 0, 1, 0, []), (105, .goto 4, 3, 109, 0, 0, 0, 0, 0, []), (108, .iconst 0, 1, 0, 0, 0, 0, 0, 0, []), (109, .iastore, 1, 0, 0, 0, 0, 0, 0, []), (110, .aload_n 0, 1, 0, 0, 0, 0, 0, 0, []), (111, .iload_n 1, 1, 0, 0, 0, 0, 0, 0, []), (112, .iload_n 2, 1, 0, 0, 0, 0, 0, 0, []), (113, .invokevirtual 121, 3, 122, 5, 721, 1, 0, 0, []), (116, .ireturn, 1, 0, 0, 0, 0, 0, 0, [])]
def am_t124 : List aI := [(0, .aload_n 0, 1, 0, 0, 0, 0, 0, 0, []), (1, .getfield 7, 3, 5, 0, 610, 1, 0, 0, []), (4, .iload_n 1, 1, 0, 0, 0, 0, 0, 0, []), (5, .iconst 1, 1, 0, 0, 0, 0, 1, 0, []), (6, .iadd, 1, 0, 0, 0, 0, 0, 0, []), (7, .iaload, 1, 0, 0, 0, 0, 0, 0, []), (8, .iconst 1, 1, 0, 0, 0, 0, 1, 0, []), (9, .if_icmp .ne 16, 3, 25, 0, 0, 0, 0, 0, []), (12, .aload_n 0, 1, 0, 0, 0, 0, 0, 0, []), (13, .iload_n 1, 1, 0, 0, 0, 0, 0, 0, []), (14, .iload_n 2, 1, 0, 0, 0, 0, 0, 0, []), (15, .invokevirtual 64, 3, 101, 5, 688, 1, 0, 0, []), (18, .ifCond .ne 7, 3, 25, 0, 0, 0, 0, 0, []), (21, .iconst 1, 1, 0, 0, 0, 0, 1, 0, []), (22, .goto 4, 3, 26, 0, 0, 0, 0, 0, []), (25, .iconst 0, 1, 0, 0, 0, 0, 0, 0, []), (26, .ireturn, 1, 0, 0, 0, 1, 0, 0, [])]
def am_t125 : List aI := [(0, .iload_n 2, 1, 0, 0, 0, 0, 0, 0, []), (1, .ldc 51, 2, 0, 0, 695, 0, (-2000005), 0, []), (3, .if_icmp .ne 5, 3, 8, 0, 0, 0, 0, 0, []), (6, .iconst 0, 1, 0, 0, 0, 0, 0, 0, []), (7, .ireturn, 1, 0, 0, 0, 0, 0, 0, []), (8, .aload_n 0, 1, 0, 0, 0, 0, 0, 0, []), (9, .getfield 7, 3, 5, 0, 610, 1, 0, 0, []), (12, .iload_n 1, 1, 0, 0, 0, 0, 0, 0, []), (13, .iconst 0, 1, 0, 0, 0, 0, 0, 0, []), (14, .iadd, 1, 0, 0, 0, 0, 0, 0, []), (15, .dup2, 1, 0, 0, 0, 0, 0, 0, []), (16, .iaload, 1, 0, 0, 0, 0, 0, 0, []), (17, .iconst 1, 1, 0, 0, 0, 0, 1, 0, []), (18, .isub, 1, 0, 0, 0, 0, 0, 0, []), (19, .iastore, 1, 0, 0, 0, 0, 0, 0, []), (20, .iload_n 1, 1, 0, 0, 0, 0, 0, 0, []), (21, .iload_n 2, 1, 0, 0, 0, 0, 0, 0, []), (22, .iconst 0, 1, 0, 0, 0, 0, 0, 0, []), (23, .invokestatic 47, 3, 100, 0, 692, 1, 0, 0, []), (26, .istore_n 3, 1, 0, 0, 0, 0, 0, 0, []), (27, .iload_n 3, 1, 0, 0, 0, 0, 0, 0, []), (28, .iload_n 1, 1, 0, 0, 0, 0, 0, 0, []), (29, .aload_n 0, 1, 0, 0, 0, 0, 0, 0, []), (30, .getfield 7, 3, 5, 0, 610, 1, 0, 0, []), (33, .iload_n 1, 1, 0, 0, 0, 0, 0, 0, []), (34, .iconst 0, 1, 0, 0, 0, 0, 0, 0, []), (35, .iadd, 1, 0, 0, 0, 0, 0, 0, []), (36, .iaload, 1, 0, 0, 0, 0, 0, 0, []), (37, .iconst 0, 1, 0, 0, 0, 0, 0, 0, []), (38, .invokestatic 47, 3, 100, 0, 692, 1, 0, 0, []), (41, .if_icmp .ge 23, 3, 64, 0, 0, 0, 0, 0, []), (44, .aload_n 0, 1, 0, 0, 0, 0, 0, 0, []), (45, .getfield 7, 3, 5, 0, 610, 1, 0, 0, []), (48, .iload_n 3, 1, 0, 0, 0, 0, 0, 0, []), (49, .aload_n 0, 1, 0, 0, 0, 0, 0, 0, []), (50, .getfield 7, 3, 5, 0, 610, 1, 0, 0, []), (53, .iload_n 3, 1, 0, 0, 0, 0, 0, 0, []), (54, .iconst 3, 1, 0, 0, 0, 0, 3, 0, []), (55, .iadd, 1, 0, 0, 0, 0, 0, 0, []), (56, .iaload, 1, 0, 0, 0, 0, 0, 0, []), (57, .iastore, 1, 0, 0, 0, 0, 0, 0, []), (58, .iinc 3 1, 3, 0, 0, 0, 0, 1, 0, []), (61, .goto (-34), 3, 27, 0, 0, 0, 0, 0, []), (64, .iconst 1, 1, 0, 0, 0, 0, 1, 0, []), (65, .ireturn, 1, 0, 0, 0, 0, 0, 0, [])]
def am_t126 : List aI := [(0, .aload_n 0, 1, 0, 0, 0, 0, 0, 0, []), (1, .iload_n 1, 1, 0, 0, 0, 0, 0, 0, []), (2, .iload_n 2, 1, 0, 0, 0, 0, 0, 0, []), (3, .invokevirtual 102, 3, 90, 5, 675, 1, 0, 0, []), (6, .ifCond .eq 10, 3, 16, 0, 0, 0, 0, 0, []), (9, .iload_n 3, 1, 0, 0, 0, 0, 0, 0, []), (10, .invokestatic 106, 3, 91, 0, 679, 1, 0, 0, []), (13, .ifCond .ne 6, 3, 19, 0, 0, 0, 0, 0, []), (16, .ldc 101, 2, 0, 0, 667, 0, (-2000001), 0, []), (18, .ireturn, 1, 0, 0, 0, 0, 0, 0, []), (19, .iload_n 1, 1, 0, 0, 0, 0, 0, 0, []), (20, .iload_n 2, 1, 0, 0, 0, 0, 0, 0, []), (21, .iconst 0, 1, 0, 0, 0, 0, 0, 0, []), (22, .invokestatic 61, 3, 88, 0, 668, 1, 0, 0, []), (25, .istore 4, 2, 0, 0, 0, 0, 0, 0, []), (27, .iload_n 1, 1, 0, 0, 0, 0, 0, 0, []), (28, .iload_n 2, 1, 0, 0, 0, 0, 0, 0, []), (29, .iconst 1, 1, 0, 0, 0, 0, 1, 0, []), (30, .invokestatic 61, 3, 88, 0, 668, 1, 0, 0, []), (33, .istore 5, 2, 0, 0, 0, 0, 0, 0, []), (35, .aload_n 0, 1, 0, 0, 0, 0, 0, 0, []), (36, .iload 4, 2, 0, 0, 0, 0, 0, 0, []), (38, .iload_n 3, 1, 0, 0, 0, 0, 0, 0, []), (39, .invokevirtual 124, 3, 124, 5, 733, 1, 0, 0, []), (42, .ifCond .ne 13, 3, 55, 0, 0, 0, 0, 0, []), (45, .aload_n 0, 1, 0, 0, 0, 0, 0, 0, []), (46, .iload 5, 2, 0, 0, 0, 0, 0, 0, []), (48, .iload_n 3, 1, 0, 0, 0, 0, 0, 0, []), (49, .invokevirtual 124, 3, 124, 5, 733, 1, 0, 0, []), (52, .ifCond .eq 6, 3, 58, 0, 0, 0, 0, 0, []), (55, .ldc 114, 2, 0, 0, 696, 0, (-2000004), 0, []), (57, .ireturn, 1, 0, 0, 0, 0, 0, 0, []), (58, .aload_n 0, 1, 0, 0, 0, 0, 0, 0, []), (59, .iload 4, 2, 0, 0, 0, 0, 0, 0, []), (61, .iload_n 3, 1, 0, 0, 0, 0, 0, 0, []), (62, .invokevirtual 64, 3, 101, 5, 688, 1, 0, 0, []), (65, .istore 6, 2, 0, 0, 0, 0, 0, 0, []), (67, .aload_n 0, 1, 0, 0, 0, 0, 0, 0, []), (68, .iload 5, 2, 0, 0, 0, 0, 0, 0, []), (70, .iload_n 3, 1, 0, 0, 0, 0, 0, 0, []), (71, .invokevirtual 64, 3, 101, 5, 688, 1, 0, 0, []), (74, .istore 7, 2, 0, 0, 0, 0, 0, 0, []), (76, .iload 6, 2, 0, 0, 0, 0, 0, 0, []), (78, .ldc 51, 2, 0, 0, 695, 0, (-2000005), 0, []), (80, .if_icmp .ne 13, 3, 93, 0, 0, 0, 0, 0, []), (83, .iload 7, 2, 0, 0, 0, 0, 0, 0, []), (85, .ldc 51, 2, 0, 0, 695, 0, (-2000005), 0, []), (87, .if_icmp .ne 6, 3, 93, 0, 0, 0, 0, 0, []), (90, .ldc 51, 2, 0, 0, 695, 0, (-2000005), 0, []), (92, .ireturn, 1, 0, 0, 0, 0, 0, 0, []), (93, .aload_n 0, 1, 0, 0, 0, 0, 0, 0, []), (94, .invokevirtual 98, 3, 92, 5, 649, 0, 0, 0, []), (97, .aload_n 0, 1, 0, 0, 0, 0, 0, 0, []), (98, .iload 4, 2, 0, 0, 0, 0, 0, 0, []), (100, .iload 6, 2, 0, 0, 0, 0, 0, 0, []), (102, .invokevirtual 127, 3, 125, 5, 737, 1, 0, 0, []), (105, .aload_n 0, 1, 0, 0, 0, 0, 0, 0, []), (106, .iload 5, 2, 0, 0, 0, 0, 0, 0, []), (108, .iload 7, 2, 0, 0, 0, 0, 0, 0, []), (110, .invokevirtual 127, 3, 125, 5, 737, 1, 0, 0, []), (113, .iadd, 1, 0, 0, 0, 0, 0, 0, []), (114, .ireturn, 1, 0, 0, 0, 0, 0, 0, [])]
def am_t127 : List aI := [(0, .ldc 51, 2, 0, 0, 695, 0, (-2000005), 0, []), (2, .istore_n 2, 1, 0, 0, 0, 0, 0, 0, []), (3, .iconst 0, 1, 0, 0, 0, 0, 0, 0, []), (4, .istore_n 3, 1, 0, 0, 0, 0, 0, 0, []), (5, .iconst 0, 1, 0, 0, 0, 0, 0, 0, []), (6, .istore 4, 2, 0, 0, 0, 0, 0, 0, []), (8, .iload 4, 2, 0, 0, 0, 0, 0, 0, []), (10, .bipush 10, 2, 0, 0, 0, 0, 10, 0, []), (12, .aload_n 0, 1, 0, 0, 0, 0, 0, 0, []), (13, .getfield 7, 3, 5, 0, 610, 1, 0, 0, []), (16, .iload_n 1, 1, 0, 0, 0, 0, 0, 0, []), (17, .iconst 0, 1, 0, 0, 0, 0, 0, 0, []), (18, .invokestatic 25, 3, 87, 0, 653, 1, 0, 0, []), (21, .iaload, 1, 0, 0, 0, 0, 0, 0, []), (22, .imul, 1, 0, 0, 0, 0, 0, 0, []), (23, .if_icmp .ge 83, 3, 106, 0, 0, 0, 0, 0, []), (26, .iload 4, 2, 0, 0, 0, 0, 0, 0, []), (28, .bipush 10, 2, 0, 0, 0, 0, 10, 0, []), (30, .idiv, 1, 0, 0, 0, 0, 0, 0, []), (31, .istore 5, 2, 0, 0, 0, 0, 0, 0, []), (33, .iload 4, 2, 0, 0, 0, 0, 0, 0, []), (35, .bipush 10, 2, 0, 0, 0, 0, 10, 0, []), (37, .irem, 1, 0, 0, 0, 0, 0, 0, []), (38, .istore 6, 2, 0, 0, 0, 0, 0, 0, []), (40, .iload 6, 2, 0, 0, 0, 0, 0, 0, []), (42, .invokestatic 106, 3, 91, 0, 679, 1, 0, 0, []), (45, .ifCond .eq 55, 3, 100, 0, 0, 0, 0, 0, []), (48, .aload_n 0, 1, 0, 0, 0, 0, 0, 0, []), (49, .iload_n 1, 1, 0, 0, 0, 0, 0, 0, []), (50, .iload 5, 2, 0, 0, 0, 0, 0, 0, []), (52, .iload 6, 2, 0, 0, 0, 0, 0, 0, []), (54, .invokevirtual 94, 3, 114, 5, 749, 1, 0, 0, []), (57, .ifCond .eq 43, 3, 100, 0, 0, 0, 0, 0, []), (60, .aload_n 0, 1, 0, 0, 0, 0, 0, 0, []), (61, .iload_n 1, 1, 0, 0, 0, 0, 0, 0, []), (62, .iload 5, 2, 0, 0, 0, 0, 0, 0, []), (64, .iload 6, 2, 0, 0, 0, 0, 0, 0, []), (66, .invokevirtual 88, 3, 113, 5, 761, 1, 0, 0, []), (69, .invokestatic 91, 3, 99, 0, 788, 1, 0, 0, []), (72, .istore 7, 2, 0, 0, 0, 0, 0, 0, []), (74, .iload 7, 2, 0, 0, 0, 0, 0, 0, []), (76, .iload_n 3, 1, 0, 0, 0, 0, 0, 0, []), (77, .if_icmp .le 8, 3, 85, 0, 0, 0, 0, 0, []), (80, .iload 4, 2, 0, 0, 0, 0, 0, 0, []), (82, .goto 4, 3, 86, 0, 0, 0, 0, 0, []), (85, .iload_n 2, 1, 0, 0, 0, 0, 0, 0, []), (86, .istore_n 2, 1, 0, 0, 0, 0, 0, 0, []), (87, .iload 7, 2, 0, 0, 0, 0, 0, 0, []), (89, .iload_n 3, 1, 0, 0, 0, 0, 0, 0, []), (90, .if_icmp .le 8, 3, 98, 0, 0, 0, 0, 0, []), (93, .iload 7, 2, 0, 0, 0, 0, 0, 0, []), (95, .goto 4, 3, 99, 0, 0, 0, 0, 0, []), (98, .iload_n 3, 1, 0, 0, 0, 0, 0, 0, []), (99, .istore_n 3, 1, 0, 0, 0, 0, 0, 0, []), (100, .iinc 4 1, 3, 0, 0, 0, 0, 1, 0, []), (103, .goto (-95), 3, 8, 0, 0, 0, 0, 0, []), (106, .iload_n 2, 1, 0, 0, 0, 0, 0, 0, []), (107, .ireturn, 1, 0, 0, 0, 0, 0, 0, [])]
def am_t128 : List aI := [(0, .aload_n 0, 1, 0, 0, 0, 0, 0, 0, []), (1, .iload_n 1, 1, 0, 0, 0, 0, 0, 0, []), (2, .invokevirtual 33, 3, 89, 5, 660, 1, 0, 0, []), (5, .ifCond .ne 6, 3, 11, 0, 0, 0, 0, 0, []), (8, .ldc 101, 2, 0, 0, 667, 0, (-2000001), 0, []), (10, .ireturn, 1, 0, 0, 0, 0, 0, 0, []), (11, .aload_n 0, 1, 0, 0, 0, 0, 0, 0, []), (12, .iload_n 1, 1, 0, 0, 0, 0, 0, 0, []), (13, .invokevirtual 130, 3, 127, 5, 745, 1, 0, 0, []), (16, .istore_n 2, 1, 0, 0, 0, 0, 0, 0, []), (17, .iload_n 2, 1, 0, 0, 0, 0, 0, 0, []), (18, .ldc 51, 2, 0, 0, 695, 0, (-2000005), 0, []), (20, .if_icmp .ne 6, 3, 26, 0, 0, 0, 0, 0, []), (23, .ldc 51, 2, 0, 0, 695, 0, (-2000005), 0, []), (25, .ireturn, 1, 0, 0, 0, 0, 0, 0, []), (26, .aload_n 0, 1, 0, 0, 0, 0, 0, 0, []), (27, .invokevirtual 98, 3, 92, 5, 649, 0, 0, 0, []), (30, .iconst 0, 1, 0, 0, 0, 0, 0, 0, []), (31, .istore_n 3, 1, 0, 0, 0, 0, 0, 0, []), (32, .iload_n 2, 1, 0, 0, 0, 0, 0, 0, []), (33, .ldc 51, 2, 0, 0, 695, 0, (-2000005), 0, []), (35, .if_icmp .eq 64, 3, 99, 0, 0, 0, 0, 0, []), (38, .iconst 0, 1, 0, 0, 0, 0, 0, 0, []), (39, .istore 4, 2, 0, 0, 0, 0, 0, 0, []), (41, .iload 4, 2, 0, 0, 0, 0, 0, 0, []), (43, .iconst 2, 1, 0, 0, 0, 0, 2, 0, []), (44, .if_icmp .ge 43, 3, 87, 0, 0, 0, 0, 0, []), (47, .iload_n 1, 1, 0, 0, 0, 0, 0, 0, []), (48, .iload_n 2, 1, 0, 0, 0, 0, 0, 0, []), (49, .bipush 10, 2, 0, 0, 0, 0, 10, 0, []), (51, .idiv, 1, 0, 0, 0, 0, 0, 0, []), (52, .iload 4, 2, 0, 0, 0, 0, 0, 0, []), (54, .invokestatic 61, 3, 88, 0, 668, 1, 0, 0, []), (57, .istore 5, 2, 0, 0, 0, 0, 0, 0, []), (59, .aload_n 0, 1, 0, 0, 0, 0, 0, 0, []), (60, .getfield 7, 3, 5, 0, 610, 1, 0, 0, []), (63, .iload 5, 2, 0, 0, 0, 0, 0, 0, []), (65, .aload_n 0, 1, 0, 0, 0, 0, 0, 0, []), (66, .iload 5, 2, 0, 0, 0, 0, 0, 0, []), (68, .iload_n 2, 1, 0, 0, 0, 0, 0, 0, []), (69, .bipush 10, 2, 0, 0, 0, 0, 10, 0, []), (71, .irem, 1, 0, 0, 0, 0, 0, 0, []), (72, .invokevirtual 64, 3, 101, 5, 688, 1, 0, 0, []), (75, .iconst 2, 1, 0, 0, 0, 0, 2, 0, []), (76, .invokestatic 47, 3, 100, 0, 692, 1, 0, 0, []), (79, .iconst 1, 1, 0, 0, 0, 0, 1, 0, []), (80, .iastore, 1, 0, 0, 0, 0, 0, 0, []), (81, .iinc 4 1, 3, 0, 0, 0, 0, 1, 0, []), (84, .goto (-43), 3, 41, 0, 0, 0, 0, 0, []), (87, .iinc 3 1, 3, 0, 0, 0, 0, 1, 0, []), (90, .aload_n 0, 1, 0, 0, 0, 0, 0, 0, []), (91, .iload_n 1, 1, 0, 0, 0, 0, 0, 0, []), (92, .invokevirtual 130, 3, 127, 5, 745, 1, 0, 0, []), (95, .istore_n 2, 1, 0, 0, 0, 0, 0, 0, []), (96, .goto (-64), 3, 32, 0, 0, 0, 0, 0, []), (99, .iload_n 3, 1, 0, 0, 0, 0, 0, 0, []), (100, .ireturn, 1, 0, 0, 0, 0, 0, 0, [])]
def am_t129 : List aI := [(0, .iload_n 1, 1, 0, 0, 0, 0, 0, 0, []), (1, .iconst 1, 1, 0, 0, 0, 0, 1, 0, []), (2, .sipush 600, 3, 0, 0, 0, 0, 600, 0, []), (5, .invokestatic 29, 3, 86, 0, 664, 1, 0, 0, []), (8, .ifCond .ne 6, 3, 14, 0, 0, 0, 0, 0, []), (11, .ldc 110, 2, 0, 0, 683, 0, (-2000002), 0, []), (13, .ireturn, 1, 0, 0, 0, 0, 0, 0, []), (14, .aload_n 0, 1, 0, 0, 0, 0, 0, 0, []), (15, .getfield 7, 3, 5, 0, 610, 1, 0, 0, []), (18, .iconst 1, 1, 0, 0, 0, 0, 1, 0, []), (19, .iaload, 1, 0, 0, 0, 0, 0, 0, []), (20, .iload_n 1, 1, 0, 0, 0, 0, 0, 0, []), (21, .if_icmp .ne 6, 3, 27, 0, 0, 0, 0, 0, []), (24, .ldc 51, 2, 0, 0, 695, 0, (-2000005), 0, []), (26, .ireturn, 1, 0, 0, 0, 0, 0, 0, []), (27, .aload_n 0, 1, 0, 0, 0, 0, 0, 0, []), (28, .invokevirtual 98, 3, 92, 5, 649, 0, 0, 0, []), (31, .aload_n 0, 1, 0, 0, 0, 0, 0, 0, []), (32, .iconst 1, 1, 0, 0, 0, 0, 1, 0, []), (33, .iload_n 1, 1, 0, 0, 0, 0, 0, 0, []), (34, .invokevirtual 133, 3, 95, 5, 795, 1, 0, 0, []), (37, .ireturn, 1, 0, 0, 0, 0, 0, 0, [])]
def am_t130 : List aI := [(0, .aload_n 0, 1, 0, 0, 0, 0, 0, 0, []), (1, .iload_n 1, 1, 0, 0, 0, 0, 0, 0, []), (2, .invokevirtual 33, 3, 89, 5, 660, 1, 0, 0, []), (5, .ifCond .ne 6, 3, 11, 0, 0, 0, 0, 0, []), (8, .ldc 101, 2, 0, 0, 667, 0, (-2000001), 0, []), (10, .ireturn, 1, 0, 0, 0, 0, 0, 0, []), (11, .iload_n 2, 1, 0, 0, 0, 0, 0, 0, []), (12, .iconst 0, 1, 0, 0, 0, 0, 0, 0, []), (13, .bipush 99, 2, 0, 0, 0, 0, 99, 0, []), (15, .invokestatic 29, 3, 86, 0, 664, 1, 0, 0, []), (18, .ifCond .eq 13, 3, 31, 0, 0, 0, 0, 0, []), (21, .iload_n 3, 1, 0, 0, 0, 0, 0, 0, []), (22, .iconst 0, 1, 0, 0, 0, 0, 0, 0, []), (23, .bipush 23, 2, 0, 0, 0, 0, 23, 0, []), (25, .invokestatic 29, 3, 86, 0, 664, 1, 0, 0, []), (28, .ifCond .ne 6, 3, 34, 0, 0, 0, 0, 0, []), (31, .ldc 110, 2, 0, 0, 683, 0, (-2000002), 0, []), (33, .ireturn, 1, 0, 0, 0, 0, 0, 0, []), (34, .aload_n 0, 1, 0, 0, 0, 0, 0, 0, []), (35, .getfield 7, 3, 5, 0, 610, 1, 0, 0, []), (38, .iload_n 1, 1, 0, 0, 0, 0, 0, 0, []), (39, .iconst 1, 1, 0, 0, 0, 0, 1, 0, []), (40, .invokestatic 25, 3, 87, 0, 653, 1, 0, 0, []), (43, .iaload, 1, 0, 0, 0, 0, 0, 0, []), (44, .iload_n 2, 1, 0, 0, 0, 0, 0, 0, []), (45, .if_icmp .ne 20, 3, 65, 0, 0, 0, 0, 0, []), (48, .aload_n 0, 1, 0, 0, 0, 0, 0, 0, []), (49, .getfield 7, 3, 5, 0, 610, 1, 0, 0, []), (52, .iload_n 1, 1, 0, 0, 0, 0, 0, 0, []), (53, .iconst 2, 1, 0, 0, 0, 0, 2, 0, []), (54, .invokestatic 25, 3, 87, 0, 653, 1, 0, 0, []), (57, .iaload, 1, 0, 0, 0, 0, 0, 0, []), (58, .iload_n 3, 1, 0, 0, 0, 0, 0, 0, []), (59, .if_icmp .ne 6, 3, 65, 0, 0, 0, 0, 0, []), (62, .ldc 51, 2, 0, 0, 695, 0, (-2000005), 0, []), (64, .ireturn, 1, 0, 0, 0, 0, 0, 0, []), (65, .aload_n 0, 1, 0, 0, 0, 0, 0, 0, []), (66, .invokevirtual 98, 3, 92, 5, 649, 0, 0, 0, []), (69, .bipush 100, 2, 0, 0, 0, 0, 100, 0, []), (71, .aload_n 0, 1, 0, 0, 0, 0, 0, 0, []), (72, .iload_n 1, 1, 0, 0, 0, 0, 0, 0, []), (73, .iconst 1, 1, 0, 0, 0, 0, 1, 0, []), (74, .invokestatic 25, 3, 87, 0, 653, 1, 0, 0, []), (77, .iload_n 2, 1, 0, 0, 0, 0, 0, 0, []), (78, .invokevirtual 133, 3, 95, 5, 795, 1, 0, 0, []), (81, .imul, 1, 0, 0, 0, 0, 0, 0, []), (82, .aload_n 0, 1, 0, 0, 0, 0, 0, 0, []), (83, .iload_n 1, 1, 0, 0, 0, 0, 0, 0, []), (84, .iconst 2, 1, 0, 0, 0, 0, 2, 0, []), (85, .invokestatic 25, 3, 87, 0, 653, 1, 0, 0, []), (88, .iload_n 3, 1, 0, 0, 0, 0, 0, 0, []), (89, .invokevirtual 133, 3, 95, 5, 795, 1, 0, 0, []), (92, .iadd, 1, 0, 0, 0, 0, 0, 0, []), (93, .ireturn, 1, 0, 0, 0, 0, 0, 0, [])]
def am_t131 : List aI := [(0, .iload_n 1, 1, 0, 0, 0, 0, 0, 0, []), (1, .invokestatic 106, 3, 91, 0, 679, 1, 0, 0, []), (4, .ifCond .ne 6, 3, 10, 0, 0, 0, 0, 0, []), (7, .ldc 101, 2, 0, 0, 667, 0, (-2000001), 0, []), (9, .ireturn, 1, 0, 0, 0, 0, 0, 0, []), (10, .iload_n 2, 1, 0, 0, 0, 0, 0, 0, []), (11, .iconst 1, 1, 0, 0, 0, 0, 1, 0, []), (12, .sipush 9999, 3, 0, 0, 0, 0, 9999, 0, []), (15, .invokestatic 29, 3, 86, 0, 664, 1, 0, 0, []), (18, .ifCond .ne 6, 3, 24, 0, 0, 0, 0, 0, []), (21, .ldc 110, 2, 0, 0, 683, 0, (-2000002), 0, []), (23, .ireturn, 1, 0, 0, 0, 0, 0, 0, []), (24, .aload_n 0, 1, 0, 0, 0, 0, 0, 0, []), (25, .getfield 7, 3, 5, 0, 610, 1, 0, 0, []), (28, .iconst 2, 1, 0, 0, 0, 0, 2, 0, []), (29, .iload_n 1, 1, 0, 0, 0, 0, 0, 0, []), (30, .iadd, 1, 0, 0, 0, 0, 0, 0, []), (31, .iaload, 1, 0, 0, 0, 0, 0, 0, []), (32, .iload_n 2, 1, 0, 0, 0, 0, 0, 0, []), (33, .if_icmp .ne 6, 3, 39, 0, 0, 0, 0, 0, []), (36, .ldc 51, 2, 0, 0, 695, 0, (-2000005), 0, []), (38, .ireturn, 1, 0, 0, 0, 0, 0, 0, []), (39, .aload_n 0, 1, 0, 0, 0, 0, 0, 0, []), (40, .invokevirtual 98, 3, 92, 5, 649, 0, 0, 0, []), (43, .aload_n 0, 1, 0, 0, 0, 0, 0, 0, []), (44, .iconst 2, 1, 0, 0, 0, 0, 2, 0, []), (45, .iload_n 1, 1, 0, 0, 0, 0, 0, 0, []), (46, .iadd, 1, 0, 0, 0, 0, 0, 0, []), (47, .iload_n 2, 1, 0, 0, 0, 0, 0, 0, []), (48, .invokevirtual 133, 3, 95, 5, 795, 1, 0, 0, []), (51, .ireturn, 1, 0, 0, 0, 0, 0, 0, [])]
def am_t132 : List aI := [(0, .aload_n 0, 1, 0, 0, 0, 0, 0, 0, []), (1, .getfield 136, 3, 5, 7, 617, 0, 0, 0, []), (4, .bipush 60, 2, 0, 0, 0, 0, 60, 0, []), (6, .if_icmp .ne 6, 3, 12, 0, 0, 0, 0, 0, []), (9, .ldc 97, 2, 0, 0, 648, 0, (-2000003), 0, []), (11, .ireturn, 1, 0, 0, 0, 0, 0, 0, []), (12, .aload_n 0, 1, 0, 0, 0, 0, 0, 0, []), (13, .getfield 22, 3, 5, 6, 616, 1, 0, 0, []), (16, .aload_n 0, 1, 0, 0, 0, 0, 0, 0, []), (17, .getfield 136, 3, 5, 7, 617, 0, 0, 0, []), (20, .iload_n 1, 1, 0, 0, 0, 0, 0, 0, []), (21, .iastore, 1, 0, 0, 0, 0, 0, 0, []), (22, .aload_n 0, 1, 0, 0, 0, 0, 0, 0, []), (23, .dup, 1, 0, 0, 0, 0, 0, 0, []), (24, .getfield 136, 3, 5, 7, 617, 0, 0, 0, []), (27, .iconst 1, 1, 0, 0, 0, 0, 1, 0, []), (28, .iadd, 1, 0, 0, 0, 0, 0, 0, []), (29, .putfield 136, 3, 5, 7, 617, 0, 0, 0, []), (32, .aload_n 0, 1, 0, 0, 0, 0, 0, 0, []), (33, .getfield 136, 3, 5, 7, 617, 0, 0, 0, []), (36, .ireturn, 1, 0, 0, 0, 0, 0, 0, [])]
def am_t133 : List aI := [(0, .aload_n 0, 1, 0, 0, 0, 0, 0, 0, []), (1, .getfield 136, 3, 5, 7, 617, 0, 0, 0, []), (4, .istore_n 1, 1, 0, 0, 0, 0, 0, 0, []), (5, .aload_n 0, 1, 0, 0, 0, 0, 0, 0, []), (6, .iconst 0, 1, 0, 0, 0, 0, 0, 0, []), (7, .putfield 136, 3, 5, 7, 617, 0, 0, 0, []), (10, .iload_n 1, 1, 0, 0, 0, 0, 0, 0, []), (11, .ireturn, 1, 0, 0, 0, 0, 0, 0, [])]
def am_t134 : List aI := [(0, .aload_n 0, 1, 0, 0, 0, 0, 0, 0, []), (1, .getfield 139, 3, 5, 8, 618, 0, 0, 0, []), (4, .aload_n 0, 1, 0, 0, 0, 0, 0, 0, []), (5, .getfield 136, 3, 5, 7, 617, 0, 0, 0, []), (8, .if_icmp .ge 15, 3, 23, 0, 0, 0, 0, 0, []), (11, .aload_n 0, 1, 0, 0, 0, 0, 0, 0, []), (12, .getfield 22, 3, 5, 6, 616, 1, 0, 0, []), (15, .aload_n 0, 1, 0, 0, 0, 0, 0, 0, []), (16, .getfield 139, 3, 5, 8, 618, 0, 0, 0, []), (19, .iaload, 1, 0, 0, 0, 0, 0, 0, []), (20, .goto 4, 3, 24, 0, 0, 0, 0, 0, []), (23, .iconst 0, 1, 0, 0, 0, 0, 0, 0, []), (24, .istore_n 3, 1, 0, 0, 0, 0, 0, 0, []), (25, .aload_n 0, 1, 0, 0, 0, 0, 0, 0, []), (26, .aload_n 0, 1, 0, 0, 0, 0, 0, 0, []), (27, .getfield 142, 3, 5, 9, 619, 2, 0, 0, []), (30, .ifCond .ne 12, 3, 42, 0, 0, 0, 0, 0, []), (33, .iload_n 3, 1, 0, 0, 0, 0, 0, 0, []), (34, .iload_n 1, 1, 0, 0, 0, 0, 0, 0, []), (35, .iload_n 2, 1, 0, 0, 0, 0, 0, 0, []), (36, .invokestatic 29, 3, 86, 0, 664, 1, 0, 0, []), (39, .ifCond .ne 7, 3, 46, 0, 0, 0, 0, 0, []), (42, .iconst 1, 1, 0, 0, 0, 0, 1, 0, []), (43, .goto 4, 3, 47, 0, 0, 0, 0, 0, []), (46, .iconst 0, 1, 0, 0, 0, 0, 0, 0, []), (47, .putfield 142, 3, 5, 9, 619, 2, 0, 0, []), (50, .aload_n 0, 1, 0, 0, 0, 0, 0, 0, []), (51, .dup, 1, 0, 0, 0, 0, 0, 0, []), (52, .getfield 139, 3, 5, 8, 618, 0, 0, 0, []), (55, .aload_n 0, 1, 0, 0, 0, 0, 0, 0, []), (56, .getfield 142, 3, 5, 9, 619, 2, 0, 0, []), (59, .ifCond .eq 7, 3, 66, 0, 0, 0, 0, 0, []), (62, .iconst 0, 1, 0, 0, 0, 0, 0, 0, []), (63, .goto 4, 3, 67, 0, 0, 0, 0, 0, []), (66, .iconst 1, 1, 0, 0, 0, 0, 1, 0, []), (67, .iadd, 1, 0, 0, 0, 0, 0, 0, []), (68, .putfield 139, 3, 5, 8, 618, 0, 0, 0, []), (71, .iload_n 3, 1, 0, 0, 0, 0, 0, 0, []), (72, .ireturn, 1, 0, 0, 0, 0, 0, 0, [])]
def am_t135 : List aI := [(0, .aload_n 0, 1, 0, 0, 0, 0, 0, 0, []), (1, .bipush 48, 2, 0, 0, 0, 0, 48, 0, []), (3, .bipush 57, 2, 0, 0, 0, 0, 57, 0, []), (5, .invokevirtual 146, 3, 134, 5, 823, 1, 0, 0, []), (8, .bipush 48, 2, 0, 0, 0, 0, 48, 0, []), (10, .isub, 1, 0, 0, 0, 0, 0, 0, []), (11, .istore_n 2, 1, 0, 0, 0, 0, 0, 0, []), (12, .aload_n 0, 1, 0, 0, 0, 0, 0, 0, []), (13, .getfield 142, 3, 5, 9, 619, 2, 0, 0, []), (16, .ifCond .ne 78, 3, 94, 0, 0, 0, 0, 0, []), (19, .iload_n 2, 1, 0, 0, 0, 0, 0, 0, []), (20, .ifCond .le 74, 3, 94, 0, 0, 0, 0, 0, []), (23, .aload_n 0, 1, 0, 0, 0, 0, 0, 0, []), (24, .getfield 139, 3, 5, 8, 618, 0, 0, 0, []), (27, .aload_n 0, 1, 0, 0, 0, 0, 0, 0, []), (28, .getfield 136, 3, 5, 7, 617, 0, 0, 0, []), (31, .if_icmp .ge 63, 3, 94, 0, 0, 0, 0, 0, []), (34, .aload_n 0, 1, 0, 0, 0, 0, 0, 0, []), (35, .getfield 22, 3, 5, 6, 616, 1, 0, 0, []), (38, .aload_n 0, 1, 0, 0, 0, 0, 0, 0, []), (39, .getfield 139, 3, 5, 8, 618, 0, 0, 0, []), (42, .iaload, 1, 0, 0, 0, 0, 0, 0, []), (43, .bipush 48, 2, 0, 0, 0, 0, 48, 0, []), (45, .bipush 57, 2, 0, 0, 0, 0, 57, 0, []), (47, .invokestatic 29, 3, 86, 0, 664, 1, 0, 0, []), (50, .ifCond .eq 44, 3, 94, 0, 0, 0, 0, 0, []), (53, .bipush 10, 2, 0, 0, 0, 0, 10, 0, []), (55, .iload_n 2, 1, 0, 0, 0, 0, 0, 0, []), (56, .imul, 1, 0, 0, 0, 0, 0, 0, []), (57, .aload_n 0, 1, 0, 0, 0, 0, 0, 0, []), (58, .getfield 22, 3, 5, 6, 616, 1, 0, 0, []), (61, .aload_n 0, 1, 0, 0, 0, 0, 0, 0, []), (62, .getfield 139, 3, 5, 8, 618, 0, 0, 0, []), (65, .iaload, 1, 0, 0, 0, 0, 0, 0, []), (66, .iadd, 1, 0, 0, 0, 0, 0, 0, []), (67, .bipush 48, 2, 0, 0, 0, 0, 48, 0, []), (69, .isub, 1, 0, 0, 0, 0, 0, 0, []), (70, .iload_n 1, 1, 0, 0, 0, 0, 0, 0, []), (71, .if_icmp .gt 23, 3, 94, 0, 0, 0, 0, 0, []), (74, .bipush 10, 2, 0, 0, 0, 0, 10, 0, []), (76, .iload_n 2, 1, 0, 0, 0, 0, 0, 0, []), (77, .imul, 1, 0, 0, 0, 0, 0, 0, []), (78, .aload_n 0, 1, 0, 0, 0, 0, 0, 0, []), (79, .bipush 48, 2, 0, 0, 0, 0, 48, 0, []), (81, .bipush 57, 2, 0, 0, 0, 0, 57, 0, []), (83, .invokevirtual 146, 3, 134, 5, 823, 1, 0, 0, []), (86, .iadd, 1, 0, 0, 0, 0, 0, 0, []), (87, .bipush 48, 2, 0, 0, 0, 0, 48, 0, []), (89, .isub, 1, 0, 0, 0, 0, 0, 0, []), (90, .istore_n 2, 1, 0, 0, 0, 0, 0, 0, []), (91, .goto (-79), 3, 12, 0, 0, 0, 0, 0, []), (94, .iload_n 2, 1, 0, 0, 0, 0, 0, 0, []), (95, .ireturn, 1, 0, 0, 0, 0, 0, 0, [])]
def am_t136 : List aI := [(0, .aload_n 0, 1, 0, 0, 0, 0, 0, 0, []), (1, .iconst 0, 1, 0, 0, 0, 0, 0, 0, []), (2, .putfield 139, 3, 5, 8, 618, 0, 0, 0, []), (5, .aload_n 0, 1, 0, 0, 0, 0, 0, 0, []), (6, .iconst 0, 1, 0, 0, 0, 0, 0, 0, []), (7, .putfield 142, 3, 5, 9, 619, 2, 0, 0, []), (10, .aload_n 0, 1, 0, 0, 0, 0, 0, 0, []), (11, .iconst 0, 1, 0, 0, 0, 0, 0, 0, []), (12, .putfield 149, 3, 5, 10, 620, 2, 0, 0, []), (15, .iconst 0, 1, 0, 0, 0, 0, 0, 0, []), (16, .istore 4, 2, 0, 0, 0, 0, 0, 0, []), (18, .iconst 1, 1, 0, 0, 0, 0, 1, 0, []), (19, .istore 5, 2, 0, 0, 0, 0, 0, 0, []), (21, .iload 5, 2, 0, 0, 0, 0, 0, 0, []), (23, .ifCond .eq 270, 3, 293, 0, 0, 0, 0, 0, []), (26, .aload_n 0, 1, 0, 0, 0, 0, 0, 0, []), (27, .bipush 48, 2, 0, 0, 0, 0, 48, 0, []), (29, .bipush 53, 2, 0, 0, 0, 0, 53, 0, []), (31, .invokevirtual 146, 3, 134, 5, 823, 1, 0, 0, []), (34, .bipush 48, 2, 0, 0, 0, 0, 48, 0, []), (36, .isub, 1, 0, 0, 0, 0, 0, 0, []), (37, .istore 6, 2, 0, 0, 0, 0, 0, 0, []), (39, .aload_n 0, 1, 0, 0, 0, 0, 0, 0, []), (40, .getfield 139, 3, 5, 8, 618, 0, 0, 0, []), (43, .aload_n 0, 1, 0, 0, 0, 0, 0, 0, []), (44, .getfield 136, 3, 5, 7, 617, 0, 0, 0, []), (47, .if_icmp .ge 21, 3, 68, 0, 0, 0, 0, 0, []), (50, .aload_n 0, 1, 0, 0, 0, 0, 0, 0, []), (51, .getfield 22, 3, 5, 6, 616, 1, 0, 0, []), (54, .aload_n 0, 1, 0, 0, 0, 0, 0, 0, []), (55, .getfield 139, 3, 5, 8, 618, 0, 0, 0, []), (58, .iaload, 1, 0, 0, 0, 0, 0, 0, []), (59, .bipush 108, 2, 0, 0, 0, 0, 108, 0, []), (61, .if_icmp .ne 7, 3, 68, 0, 0, 0, 0, 0, []), (64, .iconst 1, 1, 0, 0, 0, 0, 1, 0, []), (65, .goto 4, 3, 69, 0, 0, 0, 0, 0, []), (68, .iconst 0, 1, 0, 0, 0, 0, 0, 0, []), (69, .istore 7, 2, 0, 0, 0, 0, 0, 0, []), (71, .iload 7, 2, 0, 0, 0, 0, 0, 0, []), (73, .ifCond .eq 14, 3, 87, 0, 0, 0, 0, 0, []), (76, .aload_n 0, 1, 0, 0, 0, 0, 0, 0, []), (77, .bipush 108, 2, 0, 0, 0, 0, 108, 0, []), (79, .bipush 108, 2, 0, 0, 0, 0, 108, 0, []), (81, .invokevirtual 146, 3, 134, 5, 823, 1, 0, 0, []), (84, .goto 11, 3, 95, 0, 0, 0, 0, 0, []), (87, .aload_n 0, 1, 0, 0, 0, 0, 0, 0, []), (88, .bipush 114, 2, 0, 0, 0, 0, 114, 0, []), (90, .bipush 114, 2, 0, 0, 0, 0, 114, 0, []), (92, .invokevirtual 146, 3, 134, 5, 823, 1, 0, 0, []), (95, .istore 8, 2, 0, 0, 0, 0, 0, 0, []), (97, .aload_n 0, 1, 0, 0, 0, 0, 0, 0, []), (98, .sipush 359, 3, 0, 0, 0, 0, 359, 0, []), (101, .invokevirtual 152, 3, 135, 5, 827, 1, 0, 0, []), (104, .istore 9, 2, 0, 0, 0, 0, 0, 0, []), (106, .aload_n 0, 1, 0, 0, 0, 0, 0, 0, []), (107, .bipush 58, 2, 0, 0, 0, 0, 58, 0, []), (109, .bipush 58, 2, 0, 0, 0, 0, 58, 0, []), (111, .invokevirtual 146, 3, 134, 5, 823, 1, 0, 0, []), (114, .istore 10, 2, 0, 0, 0, 0, 0, 0, []), (116, .aload_n 0, 1, 0, 0, 0, 0, 0, 0, []), (117, .bipush 59, 2, 0, 0, 0, 0, 59, 0, []), (119, .invokevirtual 152, 3, 135, 5, 827, 1, 0, 0, []), (122, .istore 11, 2, 0, 0, 0, 0, 0, 0, []), (124, .aload_n 0, 1, 0, 0, 0, 0, 0, 0, []), (125, .bipush 58, 2, 0, 0, 0, 0, 58, 0, []), (127, .bipush 58, 2, 0, 0, 0, 0, 58, 0, []), (129, .invokevirtual 146, 3, 134, 5, 823, 1, 0, 0, []), (132, .istore 10, 2, 0, 0, 0, 0, 0, 0, []), (134, .aload_n 0, 1, 0, 0, 0, 0, 0, 0, []), (135, .bipush 59, 2, 0, 0, 0, 0, 59, 0, []), (137, .invokevirtual 152, 3, 135, 5, 827, 1, 0, 0, []), (140, .istore 12, 2, 0, 0, 0, 0, 0, 0, []), (142, .iload_n 3, 1, 0, 0, 0, 0, 0, 0, []), (143, .ifCond .eq 83, 3, 226, 0, 0, 0, 0, 0, []), (146, .iload_n 1, 1, 0, 0, 0, 0, 0, 0, []), (147, .iload_n 2, 1, 0, 0, 0, 0, 0, 0, []), (148, .iload 7, 2, 0, 0, 0, 0, 0, 0, []), (150, .ifCond .eq 7, 3, 157, 0, 0, 0, 0, 0, []), (153, .iconst 0, 1, 0, 0, 0, 0, 0, 0, []), (154, .goto 4, 3, 158, 0, 0, 0, 0, 0, []), (157, .iconst 1, 1, 0, 0, 0, 0, 1, 0, []), (158, .invokestatic 61, 3, 88, 0, 668, 1, 0, 0, []), (161, .istore 13, 2, 0, 0, 0, 0, 0, 0, []), (163, .aload_n 0, 1, 0, 0, 0, 0, 0, 0, []), (164, .aload_n 0, 1, 0, 0, 0, 0, 0, 0, []), (165, .getfield 149, 3, 5, 10, 620, 2, 0, 0, []), (168, .ifCond .ne 14, 3, 182, 0, 0, 0, 0, 0, []), (171, .aload_n 0, 1, 0, 0, 0, 0, 0, 0, []), (172, .iload 13, 2, 0, 0, 0, 0, 0, 0, []), (174, .iload 6, 2, 0, 0, 0, 0, 0, 0, []), (176, .invokevirtual 111, 3, 118, 5, 684, 1, 0, 0, []), (179, .ifCond .ne 7, 3, 186, 0, 0, 0, 0, 0, []), (182, .iconst 1, 1, 0, 0, 0, 0, 1, 0, []), (183, .goto 4, 3, 187, 0, 0, 0, 0, 0, []), (186, .iconst 0, 1, 0, 0, 0, 0, 0, 0, []), (187, .putfield 149, 3, 5, 10, 620, 2, 0, 0, []), (190, .aload_n 0, 1, 0, 0, 0, 0, 0, 0, []), (191, .getfield 149, 3, 5, 10, 620, 2, 0, 0, []), (194, .ifCond .eq 7, 3, 201, 0, 0, 0, 0, 0, []), (197, .iconst 0, 1, 0, 0, 0, 0, 0, 0, []), (198, .goto 26, 3, 224, 0, 0, 0, 0, 0, []), (201, .aload_n 0, 1, 0, 0, 0, 0, 0, 0, []), (202, .iload 13, 2, 0, 0, 0, 0, 0, 0, []), (204, .iload 6, 2, 0, 0, 0, 0, 0, 0, []), (206, .sipush 3600, 3, 0, 0, 0, 0, 3600, 0, []), (209, .iload 9, 2, 0, 0, 0, 0, 0, 0, []), (211, .imul, 1, 0, 0, 0, 0, 0, 0, []), (212, .bipush 60, 2, 0, 0, 0, 0, 60, 0, []), (214, .iload 11, 2, 0, 0, 0, 0, 0, 0, []), (216, .imul, 1, 0, 0, 0, 0, 0, 0, []), (217, .iadd, 1, 0, 0, 0, 0, 0, 0, []), (218, .iload 12, 2, 0, 0, 0, 0, 0, 0, []), (220, .iadd, 1, 0, 0, 0, 0, 0, 0, []), (221, .invokevirtual 115, 3, 119, 5, 697, 1, 0, 0, []), (224, .istore 14, 2, 0, 0, 0, 0, 0, 0, []), (226, .iinc 4 1, 3, 0, 0, 0, 0, 1, 0, []), (229, .aload_n 0, 1, 0, 0, 0, 0, 0, 0, []), (230, .getfield 142, 3, 5, 9, 619, 2, 0, 0, []), (233, .ifCond .ne 25, 3, 258, 0, 0, 0, 0, 0, []), (236, .aload_n 0, 1, 0, 0, 0, 0, 0, 0, []), (237, .getfield 149, 3, 5, 10, 620, 2, 0, 0, []), (240, .ifCond .ne 18, 3, 258, 0, 0, 0, 0, 0, []), (243, .aload_n 0, 1, 0, 0, 0, 0, 0, 0, []), (244, .getfield 139, 3, 5, 8, 618, 0, 0, 0, []), (247, .aload_n 0, 1, 0, 0, 0, 0, 0, 0, []), (248, .getfield 136, 3, 5, 7, 617, 0, 0, 0, []), (251, .if_icmp .ge 7, 3, 258, 0, 0, 0, 0, 0, []), (254, .iconst 1, 1, 0, 0, 0, 0, 1, 0, []), (255, .goto 4, 3, 259, 0, 0, 0, 0, 0, []), (258, .iconst 0, 1, 0, 0, 0, 0, 0, 0, []), (259, .istore 5, 2, 0, 0, 0, 0, 0, 0, []), (261, .iload 5, 2, 0, 0, 0, 0, 0, 0, []), (263, .ifCond .eq 27, 3, 290, 0, 0, 0, 0, 0, []), (266, .aload_n 0, 1, 0, 0, 0, 0, 0, 0, []), (267, .bipush 59, 2, 0, 0, 0, 0, 59, 0, []), (269, .bipush 59, 2, 0, 0, 0, 0, 59, 0, []), (271, .invokevirtual 146, 3, 134, 5, 823, 1, 0, 0, []), (274, .istore 13, 2, 0, 0, 0, 0, 0, 0, []), (276, .aload_n 0, 1, 0, 0, 0, 0, 0, 0, []), (277, .getfield 142, 3, 5, 9, 619, 2, 0, 0, []), (280, .ifCond .ne 7, 3, 287, 0, 0, 0, 0, 0, []), (283, .iconst 1, 1, 0, 0, 0, 0, 1, 0, []), (284, .goto 4, 3, 288, 0, 0, 0, 0, 0, []), (287, .iconst 0, 1, 0, 0, 0, 0, 0, 0, []), (288, .istore 5, 2, 0, 0, 0, 0, 0, 0, []), (290, .goto (-269), 3, 21, 0, 0, 0, 0, 0, []), (293, .iload 4, 2, 0, 0, 0, 0, 0, 0, []), (295, .ireturn, 1, 0, 0, 0, 0, 0, 0, [])]
def am_t137 : List aI := [(0, .aload_n 0, 1, 0, 0, 0, 0, 0, 0, []), (1, .iload_n 1, 1, 0, 0, 0, 0, 0, 0, []), (2, .iload_n 2, 1, 0, 0, 0, 0, 0, 0, []), (3, .invokevirtual 102, 3, 90, 5, 675, 1, 0, 0, []), (6, .ifCond .ne 6, 3, 12, 0, 0, 0, 0, 0, []), (9, .ldc 101, 2, 0, 0, 667, 0, (-2000001), 0, []), (11, .ireturn, 1, 0, 0, 0, 0, 0, 0, []), (12, .aload_n 0, 1, 0, 0, 0, 0, 0, 0, []), (13, .iload_n 1, 1, 0, 0, 0, 0, 0, 0, []), (14, .iload_n 2, 1, 0, 0, 0, 0, 0, 0, []), (15, .iconst 0, 1, 0, 0, 0, 0, 0, 0, []), (16, .invokevirtual 155, 3, 136, 5, 819, 1, 0, 0, []), (19, .istore_n 3, 1, 0, 0, 0, 0, 0, 0, []), (20, .aload_n 0, 1, 0, 0, 0, 0, 0, 0, []), (21, .getfield 142, 3, 5, 9, 619, 2, 0, 0, []), (24, .ifCond .eq 11, 3, 35, 0, 0, 0, 0, 0, []), (27, .ldc 159, 2, 0, 0, 831, 0, (-2000100), 0, []), (29, .aload_n 0, 1, 0, 0, 0, 0, 0, 0, []), (30, .getfield 139, 3, 5, 8, 618, 0, 0, 0, []), (33, .isub, 1, 0, 0, 0, 0, 0, 0, []), (34, .ireturn, 1, 0, 0, 0, 0, 0, 0, []), (35, .aload_n 0, 1, 0, 0, 0, 0, 0, 0, []), (36, .invokevirtual 160, 3, 93, 5, 832, 0, 0, 0, []), (39, .aload_n 0, 1, 0, 0, 0, 0, 0, 0, []), (40, .iload_n 1, 1, 0, 0, 0, 0, 0, 0, []), (41, .iload_n 2, 1, 0, 0, 0, 0, 0, 0, []), (42, .iconst 1, 1, 0, 0, 0, 0, 1, 0, []), (43, .invokevirtual 155, 3, 136, 5, 819, 1, 0, 0, []), (46, .istore_n 3, 1, 0, 0, 0, 0, 0, 0, []), (47, .aload_n 0, 1, 0, 0, 0, 0, 0, 0, []), (48, .invokevirtual 163, 3, 94, 5, 836, 0, 0, 0, []), (51, .aload_n 0, 1, 0, 0, 0, 0, 0, 0, []), (52, .getfield 149, 3, 5, 10, 620, 2, 0, 0, []), (55, .ifCond .eq 6, 3, 61, 0, 0, 0, 0, 0, []), (58, .ldc 114, 2, 0, 0, 696, 0, (-2000004), 0, []), (60, .ireturn, 1, 0, 0, 0, 0, 0, 0, []), (61, .aload_n 0, 1, 0, 0, 0, 0, 0, 0, []), (62, .invokevirtual 98, 3, 92, 5, 649, 0, 0, 0, []), (65, .aload_n 0, 1, 0, 0, 0, 0, 0, 0, []), (66, .iload_n 1, 1, 0, 0, 0, 0, 0, 0, []), (67, .iload_n 2, 1, 0, 0, 0, 0, 0, 0, []), (68, .iconst 1, 1, 0, 0, 0, 0, 1, 0, []), (69, .invokevirtual 155, 3, 136, 5, 819, 1, 0, 0, []), (72, .ireturn, 1, 0, 0, 0, 0, 0, 0, [])]
def am_t138 : List aI := [(0, .aload_n 0, 1, 0, 0, 0, 0, 0, 0, []), (1, .getfield 37, 3, 5, 3, 613, 0, 0, 0, []), (4, .ifCond .ne 6, 3, 10, 0, 0, 0, 0, 0, []), (7, .ldc 51, 2, 0, 0, 695, 0, (-2000005), 0, []), (9, .ireturn, 1, 0, 0, 0, 0, 0, 0, []), (10, .aload_n 0, 1, 0, 0, 0, 0, 0, 0, []), (11, .dup, 1, 0, 0, 0, 0, 0, 0, []), (12, .getfield 37, 3, 5, 3, 613, 0, 0, 0, []), (15, .iconst 1, 1, 0, 0, 0, 0, 1, 0, []), (16, .isub, 1, 0, 0, 0, 0, 0, 0, []), (17, .putfield 37, 3, 5, 3, 613, 0, 0, 0, []), (20, .iconst 0, 1, 0, 0, 0, 0, 0, 0, []), (21, .istore_n 1, 1, 0, 0, 0, 0, 0, 0, []), (22, .iload_n 1, 1, 0, 0, 0, 0, 0, 0, []), (23, .sipush 1028, 3, 0, 0, 0, 0, 1028, 0, []), (26, .if_icmp .ge 30, 3, 56, 0, 0, 0, 0, 0, []), (29, .aload_n 0, 1, 0, 0, 0, 0, 0, 0, []), (30, .getfield 7, 3, 5, 0, 610, 1, 0, 0, []), (33, .iload_n 1, 1, 0, 0, 0, 0, 0, 0, []), (34, .aload_n 0, 1, 0, 0, 0, 0, 0, 0, []), (35, .getfield 16, 3, 5, 2, 612, 1, 0, 0, []), (38, .sipush 1028, 3, 0, 0, 0, 0, 1028, 0, []), (41, .aload_n 0, 1, 0, 0, 0, 0, 0, 0, []), (42, .getfield 37, 3, 5, 3, 613, 0, 0, 0, []), (45, .imul, 1, 0, 0, 0, 0, 0, 0, []), (46, .iload_n 1, 1, 0, 0, 0, 0, 0, 0, []), (47, .iadd, 1, 0, 0, 0, 0, 0, 0, []), (48, .iaload, 1, 0, 0, 0, 0, 0, 0, []), (49, .iastore, 1, 0, 0, 0, 0, 0, 0, []), (50, .iinc 1 1, 3, 0, 0, 0, 0, 1, 0, []), (53, .goto (-31), 3, 22, 0, 0, 0, 0, 0, []), (56, .aload_n 0, 1, 0, 0, 0, 0, 0, 0, []), (57, .getfield 37, 3, 5, 3, 613, 0, 0, 0, []), (60, .ireturn, 1, 0, 0, 0, 0, 0, 0, [])]
def am_t139 : List aI := [(0, .iconst 0, 1, 0, 0, 0, 0, 0, 0, []), (1, .istore_n 1, 1, 0, 0, 0, 0, 0, 0, []), (2, .iload_n 1, 1, 0, 0, 0, 0, 0, 0, []), (3, .sipush 1028, 3, 0, 0, 0, 0, 1028, 0, []), (6, .if_icmp .ge 21, 3, 27, 0, 0, 0, 0, 0, []), (9, .aload_n 0, 1, 0, 0, 0, 0, 0, 0, []), (10, .getfield 19, 3, 5, 4, 614, 1, 0, 0, []), (13, .iload_n 1, 1, 0, 0, 0, 0, 0, 0, []), (14, .aload_n 0, 1, 0, 0, 0, 0, 0, 0, []), (15, .getfield 7, 3, 5, 0, 610, 1, 0, 0, []), (18, .iload_n 1, 1, 0, 0, 0, 0, 0, 0, []), (19, .iaload, 1, 0, 0, 0, 0, 0, 0, []), (20, .iastore, 1, 0, 0, 0, 0, 0, 0, []), (21, .iinc 1 1, 3, 0, 0, 0, 0, 1, 0, []), (24, .goto (-22), 3, 2, 0, 0, 0, 0, 0, []), (27, .aload_n 0, 1, 0, 0, 0, 0, 0, 0, []), (28, .iconst 1, 1, 0, 0, 0, 0, 1, 0, []), (29, .putfield 166, 3, 5, 5, 615, 2, 0, 0, []), (32, .aload_n 0, 1, 0, 0, 0, 0, 0, 0, []), (33, .getfield 7, 3, 5, 0, 610, 1, 0, 0, []), (36, .iconst 0, 1, 0, 0, 0, 0, 0, 0, []), (37, .iaload, 1, 0, 0, 0, 0, 0, 0, []), (38, .ireturn, 1, 0, 0, 0, 0, 0, 0, [])]
def am_t140 : List aI := [(0, .aload_n 0, 1, 0, 0, 0, 0, 0, 0, []), (1, .getfield 166, 3, 5, 5, 615, 2, 0, 0, []), (4, .ifCond .ne 6, 3, 10, 0, 0, 0, 0, 0, []), (7, .ldc 51, 2, 0, 0, 695, 0, (-2000005), 0, []), (9, .ireturn, 1, 0, 0, 0, 0, 0, 0, []), (10, .aload_n 0, 1, 0, 0, 0, 0, 0, 0, []), (11, .invokevirtual 98, 3, 92, 5, 649, 0, 0, 0, []), (14, .iconst 0, 1, 0, 0, 0, 0, 0, 0, []), (15, .istore_n 1, 1, 0, 0, 0, 0, 0, 0, []), (16, .iload_n 1, 1, 0, 0, 0, 0, 0, 0, []), (17, .sipush 1028, 3, 0, 0, 0, 0, 1028, 0, []), (20, .if_icmp .ge 21, 3, 41, 0, 0, 0, 0, 0, []), (23, .aload_n 0, 1, 0, 0, 0, 0, 0, 0, []), (24, .getfield 7, 3, 5, 0, 610, 1, 0, 0, []), (27, .iload_n 1, 1, 0, 0, 0, 0, 0, 0, []), (28, .aload_n 0, 1, 0, 0, 0, 0, 0, 0, []), (29, .getfield 19, 3, 5, 4, 614, 1, 0, 0, []), (32, .iload_n 1, 1, 0, 0, 0, 0, 0, 0, []), (33, .iaload, 1, 0, 0, 0, 0, 0, 0, []), (34, .iastore, 1, 0, 0, 0, 0, 0, 0, []), (35, .iinc 1 1, 3, 0, 0, 0, 0, 1, 0, []), (38, .goto (-22), 3, 16, 0, 0, 0, 0, 0, []), (41, .aload_n 0, 1, 0, 0, 0, 0, 0, 0, []), (42, .getfield 7, 3, 5, 0, 610, 1, 0, 0, []), (45, .iconst 0, 1, 0, 0, 0, 0, 0, 0, []), (46, .iaload, 1, 0, 0, 0, 0, 0, 0, []), (47, .ireturn, 1, 0, 0, 0, 0, 0, 0, [])]
def am_t141 : List aI := [(0, .aload_n 0, 1, 0, 0, 0, 0, 0, 0, []), (1, .iload_n 1, 1, 0, 0, 0, 0, 0, 0, []), (2, .iload_n 2, 1, 0, 0, 0, 0, 0, 0, []), (3, .invokevirtual 102, 3, 90, 5, 675, 1, 0, 0, []), (6, .ifCond .ne 6, 3, 12, 0, 0, 0, 0, 0, []), (9, .ldc 101, 2, 0, 0, 667, 0, (-2000001), 0, []), (11, .ireturn, 1, 0, 0, 0, 0, 0, 0, []), (12, .iload_n 3, 1, 0, 0, 0, 0, 0, 0, []), (13, .iconst 0, 1, 0, 0, 0, 0, 0, 0, []), (14, .iconst 1, 1, 0, 0, 0, 0, 1, 0, []), (15, .invokestatic 29, 3, 86, 0, 664, 1, 0, 0, []), (18, .ifCond .eq 18, 3, 36, 0, 0, 0, 0, 0, []), (21, .iload 4, 2, 0, 0, 0, 0, 0, 0, []), (23, .ifCond .lt 13, 3, 36, 0, 0, 0, 0, 0, []), (26, .iload 5, 2, 0, 0, 0, 0, 0, 0, []), (28, .iconst 0, 1, 0, 0, 0, 0, 0, 0, []), (29, .iconst 3, 1, 0, 0, 0, 0, 3, 0, []), (30, .invokestatic 29, 3, 86, 0, 664, 1, 0, 0, []), (33, .ifCond .ne 6, 3, 39, 0, 0, 0, 0, 0, []), (36, .ldc 110, 2, 0, 0, 683, 0, (-2000002), 0, []), (38, .ireturn, 1, 0, 0, 0, 0, 0, 0, []), (39, .iload_n 1, 1, 0, 0, 0, 0, 0, 0, []), (40, .iload_n 2, 1, 0, 0, 0, 0, 0, 0, []), (41, .iload_n 3, 1, 0, 0, 0, 0, 0, 0, []), (42, .invokestatic 61, 3, 88, 0, 668, 1, 0, 0, []), (45, .istore 6, 2, 0, 0, 0, 0, 0, 0, []), (47, .iload 4, 2, 0, 0, 0, 0, 0, 0, []), (49, .aload_n 0, 1, 0, 0, 0, 0, 0, 0, []), (50, .getfield 7, 3, 5, 0, 610, 1, 0, 0, []), (53, .iload 6, 2, 0, 0, 0, 0, 0, 0, []), (55, .iconst 0, 1, 0, 0, 0, 0, 0, 0, []), (56, .iadd, 1, 0, 0, 0, 0, 0, 0, []), (57, .iaload, 1, 0, 0, 0, 0, 0, 0, []), (58, .if_icmp .lt 8, 3, 66, 0, 0, 0, 0, 0, []), (61, .ldc 51, 2, 0, 0, 695, 0, (-2000005), 0, []), (63, .goto 34, 3, 97, 0, 0, 0, 0, 0, []), (66, .iload 5, 2, 0, 0, 0, 0, 0, 0, []), (68, .iconst 3, 1, 0, 0, 0, 0, 3, 0, []), (69, .if_icmp .ge 20, 3, 89, 0, 0, 0, 0, 0, []), (72, .aload_n 0, 1, 0, 0, 0, 0, 0, 0, []), (73, .getfield 7, 3, 5, 0, 610, 1, 0, 0, []), (76, .iload 6, 2, 0, 0, 0, 0, 0, 0, []), (78, .iload 4, 2, 0, 0, 0, 0, 0, 0, []), (80, .iload 5, 2, 0, 0, 0, 0, 0, 0, []), (82, .invokestatic 47, 3, 100, 0, 692, 1, 0, 0, []), (85, .iaload, 1, 0, 0, 0, 0, 0, 0, []), (86, .goto 11, 3, 97, 0, 0, 0, 0, 0, []), (89, .aload_n 0, 1, 0, 0, 0, 0, 0, 0, []), (90, .iload 6, 2, 0, 0, 0, 0, 0, 0, []), (92, .iload 4, 2, 0, 0, 0, 0, 0, 0, []), (94, .invokevirtual 70, 3, 103, 5, 773, 1, 0, 0, []), (97, .ireturn, 1, 0, 0, 0, 0, 0, 0, [])]
def am_t142 : List aI := [(0, .iconst 0, 1, 0, 0, 0, 0, 0, 0, []), (1, .istore_n 3, 1, 0, 0, 0, 0, 0, 0, []), (2, .iconst 0, 1, 0, 0, 0, 0, 0, 0, []), (3, .istore 4, 2, 0, 0, 0, 0, 0, 0, []), (5, .iload 4, 2, 0, 0, 0, 0, 0, 0, []), (7, .bipush 6, 2, 0, 0, 0, 0, 6, 0, []), (9, .if_icmp .ge 31, 3, 40, 0, 0, 0, 0, 0, []), (12, .iload_n 3, 1, 0, 0, 0, 0, 0, 0, []), (13, .aload_n 0, 1, 0, 0, 0, 0, 0, 0, []), (14, .iload_n 1, 1, 0, 0, 0, 0, 0, 0, []), (15, .iload_n 2, 1, 0, 0, 0, 0, 0, 0, []), (16, .iload 4, 2, 0, 0, 0, 0, 0, 0, []), (18, .invokevirtual 79, 3, 106, 5, 753, 1, 0, 0, []), (21, .ifCond .ne 10, 3, 31, 0, 0, 0, 0, 0, []), (24, .iconst 1, 1, 0, 0, 0, 0, 1, 0, []), (25, .iload 4, 2, 0, 0, 0, 0, 0, 0, []), (27, .ishl, 1, 0, 0, 0, 0, 0, 0, []), (28, .goto 4, 3, 32, 0, 0, 0, 0, 0, []), (31, .iconst 0, 1, 0, 0, 0, 0, 0, 0, []), (32, .ior, 1, 0, 0, 0, 0, 0, 0, []), (33, .istore_n 3, 1, 0, 0, 0, 0, 0, 0, []), (34, .iinc 4 1, 3, 0, 0, 0, 0, 1, 0, []), (37, .goto (-32), 3, 5, 0, 0, 0, 0, 0, []), (40, .iload_n 3, 1, 0, 0, 0, 0, 0, 0, []), (41, .ireturn, 1, 0, 0, 0, 0, 0, 0, [])]
def am_t143 : List aI := [(0, .iconst 0, 1, 0, 0, 0, 0, 0, 0, []), (1, .istore_n 3, 1, 0, 0, 0, 0, 0, 0, []), (2, .iconst 0, 1, 0, 0, 0, 0, 0, 0, []), (3, .istore 4, 2, 0, 0, 0, 0, 0, 0, []), (5, .iconst 0, 1, 0, 0, 0, 0, 0, 0, []), (6, .istore 5, 2, 0, 0, 0, 0, 0, 0, []), (8, .iload 5, 2, 0, 0, 0, 0, 0, 0, []), (10, .bipush 6, 2, 0, 0, 0, 0, 6, 0, []), (12, .if_icmp .ge 34, 3, 46, 0, 0, 0, 0, 0, []), (15, .aload_n 0, 1, 0, 0, 0, 0, 0, 0, []), (16, .iload_n 1, 1, 0, 0, 0, 0, 0, 0, []), (17, .iload_n 2, 1, 0, 0, 0, 0, 0, 0, []), (18, .iload 5, 2, 0, 0, 0, 0, 0, 0, []), (20, .invokevirtual 79, 3, 106, 5, 753, 1, 0, 0, []), (23, .ifCond .ne 17, 3, 40, 0, 0, 0, 0, 0, []), (26, .iload_n 3, 1, 0, 0, 0, 0, 0, 0, []), (27, .aload_n 0, 1, 0, 0, 0, 0, 0, 0, []), (28, .iload_n 1, 1, 0, 0, 0, 0, 0, 0, []), (29, .iload_n 2, 1, 0, 0, 0, 0, 0, 0, []), (30, .iload 5, 2, 0, 0, 0, 0, 0, 0, []), (32, .invokevirtual 169, 3, 109, 5, 868, 1, 0, 0, []), (35, .iadd, 1, 0, 0, 0, 0, 0, 0, []), (36, .istore_n 3, 1, 0, 0, 0, 0, 0, 0, []), (37, .iinc 4 1, 3, 0, 0, 0, 0, 1, 0, []), (40, .iinc 5 1, 3, 0, 0, 0, 0, 1, 0, []), (43, .goto (-35), 3, 8, 0, 0, 0, 0, 0, []), (46, .iload 4, 2, 0, 0, 0, 0, 0, 0, []), (48, .ifCond .ne 8, 3, 56, 0, 0, 0, 0, 0, []), (51, .ldc 51, 2, 0, 0, 695, 0, (-2000005), 0, []), (53, .goto 9, 3, 62, 0, 0, 0, 0, 0, []), (56, .iload_n 3, 1, 0, 0, 0, 0, 0, 0, []), (57, .iload 4, 2, 0, 0, 0, 0, 0, 0, []), (59, .invokestatic 58, 3, 96, 0, 777, 1, 0, 0, []), (62, .ireturn, 1, 0, 0, 0, 0, 0, 0, [])]
def am_t144 : List aI := [(0, .aload_n 0, 1, 0, 0, 0, 0, 0, 0, []), (1, .iload_n 1, 1, 0, 0, 0, 0, 0, 0, []), (2, .iload_n 2, 1, 0, 0, 0, 0, 0, 0, []), (3, .invokevirtual 102, 3, 90, 5, 675, 1, 0, 0, []), (6, .ifCond .ne 6, 3, 12, 0, 0, 0, 0, 0, []), (9, .ldc 101, 2, 0, 0, 667, 0, (-2000001), 0, []), (11, .ireturn, 1, 0, 0, 0, 0, 0, 0, []), (12, .iload_n 1, 1, 0, 0, 0, 0, 0, 0, []), (13, .iload_n 2, 1, 0, 0, 0, 0, 0, 0, []), (14, .iload_n 3, 1, 0, 0, 0, 0, 0, 0, []), (15, .iconst 1, 1, 0, 0, 0, 0, 1, 0, []), (16, .if_icmp .eq 8, 3, 24, 0, 0, 0, 0, 0, []), (19, .iload_n 3, 1, 0, 0, 0, 0, 0, 0, []), (20, .iconst 3, 1, 0, 0, 0, 0, 3, 0, []), (21, .if_icmp .ne 7, 3, 28, 0, 0, 0, 0, 0, []), (24, .iconst 1, 1, 0, 0, 0, 0, 1, 0, []), (25, .goto 4, 3, 29, 0, 0, 0, 0, 0, []), (28, .iconst 0, 1, 0, 0, 0, 0, 0, 0, []), (29, .invokestatic 61, 3, 88, 0, 668, 1, 0, 0, []), (32, .istore 4, 2, 0, 0, 0, 0, 0, 0, []), (34, .iload_n 3, 1, 0, 0, 0, 0, 0, 0, []), (35, .tableswitch 108 0 7 #[45, 45, 55, 55, 80, 87, 94, 101], 45, 143, 0, 0, 0, 0, 0, [(0, 80), (1, 80), (2, 90), (3, 90), (4, 115), (5, 122), (6, 129), (7, 136)]), (80, .aload_n 0, 1, 0, 0, 0, 0, 0, 0, []), (81, .getfield 7, 3, 5, 0, 610, 1, 0, 0, []), (84, .iload 4, 2, 0, 0, 0, 0, 0, 0, []), (86, .iconst 0, 1, 0, 0, 0, 0, 0, 0, []), (87, .iadd, 1, 0, 0, 0, 0, 0, 0, []), (88, .iaload, 1, 0, 0, 0, 0, 0, 0, []), (89, .ireturn, 1, 0, 0, 0, 0, 0, 0, []), (90, .aload_n 0, 1, 0, 0, 0, 0, 0, 0, []), (91, .getfield 7, 3, 5, 0, 610, 1, 0, 0, []), (94, .iload 4, 2, 0, 0, 0, 0, 0, 0, []), (96, .iconst 1, 1, 0, 0, 0, 0, 1, 0, []), (97, .iadd, 1, 0, 0, 0, 0, 0, 0, []), (98, .iaload, 1, 0, 0, 0, 0, 0, 0, []), (99, .iconst 1, 1, 0, 0, 0, 0, 1, 0, []), (100, .if_icmp .ne 12, 3, 112, 0, 0, 0, 0, 0, []), (103, .aload_n 0, 1, 0, 0, 0, 0, 0, 0, []), (104, .iload 4, 2, 0, 0, 0, 0, 0, 0, []), (106, .invokevirtual 55, 3, 102, 5, 705, 1, 0, 0, []), (109, .goto 5, 3, 114, 0, 0, 0, 0, 0, []), (112, .ldc 51, 2, 0, 0, 695, 0, (-2000005), 0, []), (114, .ireturn, 1, 0, 0, 0, 0, 0, 0, []), (115, .aload_n 0, 1, 0, 0, 0, 0, 0, 0, []), (116, .iload_n 1, 1, 0, 0, 0, 0, 0, 0, []), (117, .iload_n 2, 1, 0, 0, 0, 0, 0, 0, []), (118, .invokevirtual 172, 3, 142, 5, 860, 1, 0, 0, []), (121, .ireturn, 1, 0, 0, 0, 0, 0, 0, []), (122, .aload_n 0, 1, 0, 0, 0, 0, 0, 0, []), (123, .iload_n 1, 1, 0, 0, 0, 0, 0, 0, []), (124, .iload_n 2, 1, 0, 0, 0, 0, 0, 0, []), (125, .invokevirtual 121, 3, 122, 5, 721, 1, 0, 0, []), (128, .ireturn, 1, 0, 0, 0, 0, 0, 0, []), (129, .aload_n 0, 1, 0, 0, 0, 0, 0, 0, []), (130, .iload_n 1, 1, 0, 0, 0, 0, 0, 0, []), (131, .iload_n 2, 1, 0, 0, 0, 0, 0, 0, []), (132, .invokevirtual 175, 3, 143, 5, 864, 1, 0, 0, []), (135, .ireturn, 1, 0, 0, 0, 0, 0, 0, []), (136, .aload_n 0, 1, 0, 0, 0, 0, 0, 0, []), (137, .iload_n 1, 1, 0, 0, 0, 0, 0, 0, []), (138, .iload_n 2, 1, 0, 0, 0, 0, 0, 0, []), (139, .invokevirtual 178, 3, 115, 5, 872, 1, 0, 0, []), (142, .ireturn, 1, 0, 0, 0, 0, 0, 0, []), (143, .ldc 110, 2, 0, 0, 683, 0, (-2000002), 0, []), (145, .ireturn, 1, 0, 0, 0, 0, 0, 0, [])]
def am_t145 : List aI := [(0, .aload_n 0, 1, 0, 0, 0, 0, 0, 0, []), (1, .iload_n 1, 1, 0, 0, 0, 0, 0, 0, []), (2, .iload_n 2, 1, 0, 0, 0, 0, 0, 0, []), (3, .invokevirtual 102, 3, 90, 5, 675, 1, 0, 0, []), (6, .ifCond .eq 10, 3, 16, 0, 0, 0, 0, 0, []), (9, .iload_n 3, 1, 0, 0, 0, 0, 0, 0, []), (10, .invokestatic 106, 3, 91, 0, 679, 1, 0, 0, []), (13, .ifCond .ne 6, 3, 19, 0, 0, 0, 0, 0, []), (16, .ldc 101, 2, 0, 0, 667, 0, (-2000001), 0, []), (18, .ireturn, 1, 0, 0, 0, 0, 0, 0, []), (19, .iload 4, 2, 0, 0, 0, 0, 0, 0, []), (21, .iconst 0, 1, 0, 0, 0, 0, 0, 0, []), (22, .iconst 3, 1, 0, 0, 0, 0, 3, 0, []), (23, .invokestatic 29, 3, 86, 0, 664, 1, 0, 0, []), (26, .ifCond .ne 6, 3, 32, 0, 0, 0, 0, 0, []), (29, .ldc 110, 2, 0, 0, 683, 0, (-2000002), 0, []), (31, .ireturn, 1, 0, 0, 0, 0, 0, 0, []), (32, .aload_n 0, 1, 0, 0, 0, 0, 0, 0, []), (33, .iload_n 1, 1, 0, 0, 0, 0, 0, 0, []), (34, .iload_n 2, 1, 0, 0, 0, 0, 0, 0, []), (35, .iload_n 3, 1, 0, 0, 0, 0, 0, 0, []), (36, .invokevirtual 79, 3, 106, 5, 753, 1, 0, 0, []), (39, .istore 5, 2, 0, 0, 0, 0, 0, 0, []), (41, .iload 4, 2, 0, 0, 0, 0, 0, 0, []), (43, .iconst 3, 1, 0, 0, 0, 0, 3, 0, []), (44, .if_icmp .ne 8, 3, 52, 0, 0, 0, 0, 0, []), (47, .iload 5, 2, 0, 0, 0, 0, 0, 0, []), (49, .goto 51, 3, 100, 0, 0, 0, 0, 0, []), (52, .iload 5, 2, 0, 0, 0, 0, 0, 0, []), (54, .ifCond .le 8, 3, 62, 0, 0, 0, 0, 0, []), (57, .ldc 51, 2, 0, 0, 695, 0, (-2000005), 0, []), (59, .goto 41, 3, 100, 0, 0, 0, 0, 0, []), (62, .iload 4, 2, 0, 0, 0, 0, 0, 0, []), (64, .ifCond .ne 13, 3, 77, 0, 0, 0, 0, 0, []), (67, .aload_n 0, 1, 0, 0, 0, 0, 0, 0, []), (68, .iload_n 1, 1, 0, 0, 0, 0, 0, 0, []), (69, .iload_n 2, 1, 0, 0, 0, 0, 0, 0, []), (70, .iload_n 3, 1, 0, 0, 0, 0, 0, 0, []), (71, .invokevirtual 82, 3, 110, 5, 765, 1, 0, 0, []), (74, .goto 26, 3, 100, 0, 0, 0, 0, 0, []), (77, .iload 4, 2, 0, 0, 0, 0, 0, 0, []), (79, .iconst 1, 1, 0, 0, 0, 0, 1, 0, []), (80, .if_icmp .ne 13, 3, 93, 0, 0, 0, 0, 0, []), (83, .aload_n 0, 1, 0, 0, 0, 0, 0, 0, []), (84, .iload_n 1, 1, 0, 0, 0, 0, 0, 0, []), (85, .iload_n 2, 1, 0, 0, 0, 0, 0, 0, []), (86, .iload_n 3, 1, 0, 0, 0, 0, 0, 0, []), (87, .invokevirtual 88, 3, 113, 5, 761, 1, 0, 0, []), (90, .goto 10, 3, 100, 0, 0, 0, 0, 0, []), (93, .aload_n 0, 1, 0, 0, 0, 0, 0, 0, []), (94, .iload_n 1, 1, 0, 0, 0, 0, 0, 0, []), (95, .iload_n 2, 1, 0, 0, 0, 0, 0, 0, []), (96, .iload_n 3, 1, 0, 0, 0, 0, 0, 0, []), (97, .invokevirtual 169, 3, 109, 5, 868, 1, 0, 0, []), (100, .ireturn, 1, 0, 0, 0, 0, 0, 0, [])]
def am_t146 : List aI := [(0, .iload_n 0, 1, 0, 0, 0, 0, 0, 0, []), (1, .tableswitch 61 0 5 #[39, 41, 45, 49, 53, 57], 39, 62, 0, 0, 0, 0, 0, [(0, 40), (1, 42), (2, 46), (3, 50), (4, 54), (5, 58)]), (40, .iconst 0, 1, 0, 0, 0, 0, 0, 0, []), (41, .ireturn, 1, 0, 0, 0, 0, 0, 0, []), (42, .sipush 259, 3, 0, 0, 0, 0, 259, 0, []), (45, .ireturn, 1, 0, 0, 0, 0, 0, 0, []), (46, .sipush 500, 3, 0, 0, 0, 0, 500, 0, []), (49, .ireturn, 1, 0, 0, 0, 0, 0, 0, []), (50, .sipush 707, 3, 0, 0, 0, 0, 707, 0, []), (53, .ireturn, 1, 0, 0, 0, 0, 0, 0, []), (54, .sipush 866, 3, 0, 0, 0, 0, 866, 0, []), (57, .ireturn, 1, 0, 0, 0, 0, 0, 0, []), (58, .sipush 966, 3, 0, 0, 0, 0, 966, 0, []), (61, .ireturn, 1, 0, 0, 0, 0, 0, 0, []), (62, .sipush 1000, 3, 0, 0, 0, 0, 1000, 0, []), (65, .ireturn, 1, 0, 0, 0, 0, 0, 0, [])]
def am_t147 : List aI := [(0, .iload_n 0, 1, 0, 0, 0, 0, 0, 0, []), (1, .bipush 12, 2, 0, 0, 0, 0, 12, 0, []), (3, .irem, 1, 0, 0, 0, 0, 0, 0, []), (4, .istore_n 1, 1, 0, 0, 0, 0, 0, 0, []), (5, .iload_n 1, 1, 0, 0, 0, 0, 0, 0, []), (6, .bipush 6, 2, 0, 0, 0, 0, 6, 0, []), (8, .if_icmp .le 10, 3, 18, 0, 0, 0, 0, 0, []), (11, .bipush 12, 2, 0, 0, 0, 0, 12, 0, []), (13, .iload_n 1, 1, 0, 0, 0, 0, 0, 0, []), (14, .isub, 1, 0, 0, 0, 0, 0, 0, []), (15, .goto 4, 3, 19, 0, 0, 0, 0, 0, []), (18, .iload_n 1, 1, 0, 0, 0, 0, 0, 0, []), (19, .invokestatic 181, 3, 146, 0, 896, 1, 0, 0, []), (22, .istore_n 2, 1, 0, 0, 0, 0, 0, 0, []), (23, .iload_n 0, 1, 0, 0, 0, 0, 0, 0, []), (24, .bipush 12, 2, 0, 0, 0, 0, 12, 0, []), (26, .if_icmp .le 8, 3, 34, 0, 0, 0, 0, 0, []), (29, .iload_n 2, 1, 0, 0, 0, 0, 0, 0, []), (30, .ineg, 1, 0, 0, 0, 0, 0, 0, []), (31, .goto 4, 3, 35, 0, 0, 0, 0, 0, []), (34, .iload_n 2, 1, 0, 0, 0, 0, 0, 0, []), (35, .ireturn, 1, 0, 0, 0, 0, 0, 0, [])]
def am_t148 : List aI := [(0, .ldc 184, 2, 0, 0, 892, 0, 54000, 0, []), (2, .aload_n 0, 1, 0, 0, 0, 0, 0, 0, []), (3, .getfield 7, 3, 5, 0, 610, 1, 0, 0, []), (6, .iload_n 1, 1, 0, 0, 0, 0, 0, 0, []), (7, .iconst 2, 1, 0, 0, 0, 0, 2, 0, []), (8, .invokestatic 25, 3, 87, 0, 653, 1, 0, 0, []), (11, .iaload, 1, 0, 0, 0, 0, 0, 0, []), (12, .imul, 1, 0, 0, 0, 0, 0, 0, []), (13, .iload_n 3, 1, 0, 0, 0, 0, 0, 0, []), (14, .isub, 1, 0, 0, 0, 0, 0, 0, []), (15, .sipush 27000, 3, 0, 0, 0, 0, 27000, 0, []), (18, .iadd, 1, 0, 0, 0, 0, 0, 0, []), (19, .invokestatic 42, 3, 97, 0, 712, 1, 0, 0, []), (22, .ldc 184, 2, 0, 0, 892, 0, 54000, 0, []), (24, .idiv, 1, 0, 0, 0, 0, 0, 0, []), (25, .invokestatic 185, 3, 147, 0, 893, 1, 0, 0, []), (28, .istore 4, 2, 0, 0, 0, 0, 0, 0, []), (30, .ldc2_w 188, 3, 0, 0, 899, 0, 0, 206265, []), (33, .aload_n 0, 1, 0, 0, 0, 0, 0, 0, []), (34, .getfield 7, 3, 5, 0, 610, 1, 0, 0, []), (37, .iload_n 1, 1, 0, 0, 0, 0, 0, 0, []), (38, .iconst 1, 1, 0, 0, 0, 0, 1, 0, []), (39, .invokestatic 25, 3, 87, 0, 653, 1, 0, 0, []), (42, .iaload, 1, 0, 0, 0, 0, 0, 0, []), (43, .i2l, 1, 0, 0, 0, 0, 0, 0, []), (44, .lmul, 1, 0, 0, 0, 0, 0, 0, []), (45, .iload 4, 2, 0, 0, 0, 0, 0, 0, []), (47, .i2l, 1, 0, 0, 0, 0, 0, 0, []), (48, .lmul, 1, 0, 0, 0, 0, 0, 0, []), (49, .lstore 5, 2, 0, 0, 0, 0, 0, 0, []), (51, .lload 5, 2, 0, 0, 0, 0, 0, 0, []), (53, .ldc2_w 190, 3, 0, 0, 900, 0, 0, 1000000, []), (56, .aload_n 0, 1, 0, 0, 0, 0, 0, 0, []), (57, .getfield 7, 3, 5, 0, 610, 1, 0, 0, []), (60, .iconst 2, 1, 0, 0, 0, 0, 2, 0, []), (61, .iload_n 2, 1, 0, 0, 0, 0, 0, 0, []), (62, .iadd, 1, 0, 0, 0, 0, 0, 0, []), (63, .iaload, 1, 0, 0, 0, 0, 0, 0, []), (64, .i2l, 1, 0, 0, 0, 0, 0, 0, []), (65, .lmul, 1, 0, 0, 0, 0, 0, 0, []), (66, .ldiv, 1, 0, 0, 0, 0, 0, 0, []), (67, .l2i, 1, 0, 0, 0, 0, 0, 0, []), (68, .ireturn, 1, 0, 0, 0, 0, 0, 0, [])]
def am_t149 : List aI := [(0, .iload_n 3, 1, 0, 0, 0, 0, 0, 0, []), (1, .aload_n 0, 1, 0, 0, 0, 0, 0, 0, []), (2, .iload_n 1, 1, 0, 0, 0, 0, 0, 0, []), (3, .iload_n 2, 1, 0, 0, 0, 0, 0, 0, []), (4, .iload_n 3, 1, 0, 0, 0, 0, 0, 0, []), (5, .invokevirtual 192, 3, 148, 5, 888, 1, 0, 0, []), (8, .iadd, 1, 0, 0, 0, 0, 0, 0, []), (9, .aload_n 0, 1, 0, 0, 0, 0, 0, 0, []), (10, .iload_n 1, 1, 0, 0, 0, 0, 0, 0, []), (11, .iconst 0, 1, 0, 0, 0, 0, 0, 0, []), (12, .iconst 0, 1, 0, 0, 0, 0, 0, 0, []), (13, .invokevirtual 192, 3, 148, 5, 888, 1, 0, 0, []), (16, .isub, 1, 0, 0, 0, 0, 0, 0, []), (17, .invokestatic 42, 3, 97, 0, 712, 1, 0, 0, []), (20, .ireturn, 1, 0, 0, 0, 0, 0, 0, [])]
def am_t150 : List aI := [(0, .iconst 0, 1, 0, 0, 0, 0, 0, 0, []), (1, .istore_n 3, 1, 0, 0, 0, 0, 0, 0, []), (2, .iconst 0, 1, 0, 0, 0, 0, 0, 0, []), (3, .istore 4, 2, 0, 0, 0, 0, 0, 0, []), (5, .iload 4, 2, 0, 0, 0, 0, 0, 0, []), (7, .aload_n 0, 1, 0, 0, 0, 0, 0, 0, []), (8, .getfield 7, 3, 5, 0, 610, 1, 0, 0, []), (11, .iload_n 1, 1, 0, 0, 0, 0, 0, 0, []), (12, .iconst 0, 1, 0, 0, 0, 0, 0, 0, []), (13, .invokestatic 25, 3, 87, 0, 653, 1, 0, 0, []), (16, .iaload, 1, 0, 0, 0, 0, 0, 0, []), (17, .if_icmp .ge 50, 3, 67, 0, 0, 0, 0, 0, []), (20, .aload_n 0, 1, 0, 0, 0, 0, 0, 0, []), (21, .iload_n 1, 1, 0, 0, 0, 0, 0, 0, []), (22, .iload 4, 2, 0, 0, 0, 0, 0, 0, []), (24, .iload_n 2, 1, 0, 0, 0, 0, 0, 0, []), (25, .invokevirtual 79, 3, 106, 5, 753, 1, 0, 0, []), (28, .ifCond .ne 17, 3, 45, 0, 0, 0, 0, 0, []), (31, .aload_n 0, 1, 0, 0, 0, 0, 0, 0, []), (32, .iload_n 1, 1, 0, 0, 0, 0, 0, 0, []), (33, .iload 4, 2, 0, 0, 0, 0, 0, 0, []), (35, .iload_n 2, 1, 0, 0, 0, 0, 0, 0, []), (36, .invokevirtual 88, 3, 113, 5, 761, 1, 0, 0, []), (39, .invokestatic 91, 3, 99, 0, 788, 1, 0, 0, []), (42, .goto 4, 3, 46, 0, 0, 0, 0, 0, []), (45, .iconst 0, 1, 0, 0, 0, 0, 0, 0, []), (46, .istore 5, 2, 0, 0, 0, 0, 0, 0, []), (48, .iload 5, 2, 0, 0, 0, 0, 0, 0, []), (50, .iload_n 3, 1, 0, 0, 0, 0, 0, 0, []), (51, .if_icmp .le 8, 3, 59, 0, 0, 0, 0, 0, []), (54, .iload 5, 2, 0, 0, 0, 0, 0, 0, []), (56, .goto 4, 3, 60, 0, 0, 0, 0, 0, []), (59, .iload_n 3, 1, 0, 0, 0, 0, 0, 0, []), (60, .istore_n 3, 1, 0, 0, 0, 0, 0, 0, []), (61, .iinc 4 1, 3, 0, 0, 0, 0, 1, 0, []), (64, .goto (-59), 3, 5, 0, 0, 0, 0, 0, []), (67, .iload_n 3, 1, 0, 0, 0, 0, 0, 0, []), (68, .ireturn, 1, 0, 0, 0, 0, 0, 0, [])]
def am_t151 : List aI := [(0, .aload_n 0, 1, 0, 0, 0, 0, 0, 0, []), (1, .iload_n 1, 1, 0, 0, 0, 0, 0, 0, []), (2, .invokevirtual 33, 3, 89, 5, 660, 1, 0, 0, []), (5, .ifCond .eq 10, 3, 15, 0, 0, 0, 0, 0, []), (8, .iload_n 2, 1, 0, 0, 0, 0, 0, 0, []), (9, .invokestatic 106, 3, 91, 0, 679, 1, 0, 0, []), (12, .ifCond .ne 6, 3, 18, 0, 0, 0, 0, 0, []), (15, .ldc 101, 2, 0, 0, 667, 0, (-2000001), 0, []), (17, .ireturn, 1, 0, 0, 0, 0, 0, 0, []), (18, .iload_n 3, 1, 0, 0, 0, 0, 0, 0, []), (19, .iconst 0, 1, 0, 0, 0, 0, 0, 0, []), (20, .iconst 4, 1, 0, 0, 0, 0, 4, 0, []), (21, .invokestatic 29, 3, 86, 0, 664, 1, 0, 0, []), (24, .ifCond .ne 6, 3, 30, 0, 0, 0, 0, 0, []), (27, .ldc 110, 2, 0, 0, 683, 0, (-2000002), 0, []), (29, .ireturn, 1, 0, 0, 0, 0, 0, 0, []), (30, .iload_n 3, 1, 0, 0, 0, 0, 0, 0, []), (31, .iconst 4, 1, 0, 0, 0, 0, 4, 0, []), (32, .if_icmp .ne 10, 3, 42, 0, 0, 0, 0, 0, []), (35, .aload_n 0, 1, 0, 0, 0, 0, 0, 0, []), (36, .iload_n 1, 1, 0, 0, 0, 0, 0, 0, []), (37, .iload_n 2, 1, 0, 0, 0, 0, 0, 0, []), (38, .invokevirtual 195, 3, 111, 5, 884, 1, 0, 0, []), (41, .ireturn, 1, 0, 0, 0, 0, 0, 0, []), (42, .aload_n 0, 1, 0, 0, 0, 0, 0, 0, []), (43, .iload_n 1, 1, 0, 0, 0, 0, 0, 0, []), (44, .iload_n 2, 1, 0, 0, 0, 0, 0, 0, []), (45, .invokevirtual 85, 3, 112, 5, 784, 1, 0, 0, []), (48, .istore 4, 2, 0, 0, 0, 0, 0, 0, []), (50, .iload 4, 2, 0, 0, 0, 0, 0, 0, []), (52, .ldc 51, 2, 0, 0, 695, 0, (-2000005), 0, []), (54, .if_icmp .eq 7, 3, 61, 0, 0, 0, 0, 0, []), (57, .iload_n 3, 1, 0, 0, 0, 0, 0, 0, []), (58, .ifCond .ne 8, 3, 66, 0, 0, 0, 0, 0, []), (61, .iload 4, 2, 0, 0, 0, 0, 0, 0, []), (63, .goto 41, 3, 104, 0, 0, 0, 0, 0, []), (66, .iload_n 3, 1, 0, 0, 0, 0, 0, 0, []), (67, .iconst 1, 1, 0, 0, 0, 0, 1, 0, []), (68, .if_icmp .ne 14, 3, 82, 0, 0, 0, 0, 0, []), (71, .aload_n 0, 1, 0, 0, 0, 0, 0, 0, []), (72, .iload_n 1, 1, 0, 0, 0, 0, 0, 0, []), (73, .iload_n 2, 1, 0, 0, 0, 0, 0, 0, []), (74, .iload 4, 2, 0, 0, 0, 0, 0, 0, []), (76, .invokevirtual 192, 3, 148, 5, 888, 1, 0, 0, []), (79, .goto 25, 3, 104, 0, 0, 0, 0, 0, []), (82, .iload_n 3, 1, 0, 0, 0, 0, 0, 0, []), (83, .iconst 2, 1, 0, 0, 0, 0, 2, 0, []), (84, .if_icmp .ne 14, 3, 98, 0, 0, 0, 0, 0, []), (87, .aload_n 0, 1, 0, 0, 0, 0, 0, 0, []), (88, .iload_n 1, 1, 0, 0, 0, 0, 0, 0, []), (89, .iload_n 2, 1, 0, 0, 0, 0, 0, 0, []), (90, .iload 4, 2, 0, 0, 0, 0, 0, 0, []), (92, .invokevirtual 198, 3, 149, 5, 901, 1, 0, 0, []), (95, .goto 9, 3, 104, 0, 0, 0, 0, 0, []), (98, .aload_n 0, 1, 0, 0, 0, 0, 0, 0, []), (99, .iload_n 1, 1, 0, 0, 0, 0, 0, 0, []), (100, .iload_n 2, 1, 0, 0, 0, 0, 0, 0, []), (101, .invokevirtual 201, 3, 150, 5, 905, 1, 0, 0, []), (104, .ireturn, 1, 0, 0, 0, 0, 0, 0, [])]
def am_t152 : List aI := [(0, .aload_n 0, 1, 0, 0, 0, 0, 0, 0, []), (1, .iload_n 1, 1, 0, 0, 0, 0, 0, 0, []), (2, .invokevirtual 33, 3, 89, 5, 660, 1, 0, 0, []), (5, .ifCond .eq 17, 3, 22, 0, 0, 0, 0, 0, []), (8, .iload_n 2, 1, 0, 0, 0, 0, 0, 0, []), (9, .invokestatic 106, 3, 91, 0, 679, 1, 0, 0, []), (12, .ifCond .eq 10, 3, 22, 0, 0, 0, 0, 0, []), (15, .iload_n 3, 1, 0, 0, 0, 0, 0, 0, []), (16, .invokestatic 106, 3, 91, 0, 679, 1, 0, 0, []), (19, .ifCond .ne 6, 3, 25, 0, 0, 0, 0, 0, []), (22, .ldc 101, 2, 0, 0, 667, 0, (-2000001), 0, []), (24, .ireturn, 1, 0, 0, 0, 0, 0, 0, []), (25, .aload_n 0, 1, 0, 0, 0, 0, 0, 0, []), (26, .iload_n 1, 1, 0, 0, 0, 0, 0, 0, []), (27, .iload_n 2, 1, 0, 0, 0, 0, 0, 0, []), (28, .invokevirtual 85, 3, 112, 5, 784, 1, 0, 0, []), (31, .istore 5, 2, 0, 0, 0, 0, 0, 0, []), (33, .aload_n 0, 1, 0, 0, 0, 0, 0, 0, []), (34, .iload_n 1, 1, 0, 0, 0, 0, 0, 0, []), (35, .iload_n 3, 1, 0, 0, 0, 0, 0, 0, []), (36, .invokevirtual 85, 3, 112, 5, 784, 1, 0, 0, []), (39, .istore 6, 2, 0, 0, 0, 0, 0, 0, []), (41, .iload 5, 2, 0, 0, 0, 0, 0, 0, []), (43, .ldc 51, 2, 0, 0, 695, 0, (-2000005), 0, []), (45, .if_icmp .eq 10, 3, 55, 0, 0, 0, 0, 0, []), (48, .iload 6, 2, 0, 0, 0, 0, 0, 0, []), (50, .ldc 51, 2, 0, 0, 695, 0, (-2000005), 0, []), (52, .if_icmp .ne 6, 3, 58, 0, 0, 0, 0, 0, []), (55, .ldc 51, 2, 0, 0, 695, 0, (-2000005), 0, []), (57, .ireturn, 1, 0, 0, 0, 0, 0, 0, []), (58, .iload 4, 2, 0, 0, 0, 0, 0, 0, []), (60, .ifCond .eq 23, 3, 83, 0, 0, 0, 0, 0, []), (63, .aload_n 0, 1, 0, 0, 0, 0, 0, 0, []), (64, .iload_n 1, 1, 0, 0, 0, 0, 0, 0, []), (65, .iload_n 3, 1, 0, 0, 0, 0, 0, 0, []), (66, .iload 6, 2, 0, 0, 0, 0, 0, 0, []), (68, .invokevirtual 198, 3, 149, 5, 901, 1, 0, 0, []), (71, .aload_n 0, 1, 0, 0, 0, 0, 0, 0, []), (72, .iload_n 1, 1, 0, 0, 0, 0, 0, 0, []), (73, .iload_n 2, 1, 0, 0, 0, 0, 0, 0, []), (74, .iload 5, 2, 0, 0, 0, 0, 0, 0, []), (76, .invokevirtual 198, 3, 149, 5, 901, 1, 0, 0, []), (79, .isub, 1, 0, 0, 0, 0, 0, 0, []), (80, .goto 8, 3, 88, 0, 0, 0, 0, 0, []), (83, .iload 6, 2, 0, 0, 0, 0, 0, 0, []), (85, .iload 5, 2, 0, 0, 0, 0, 0, 0, []), (87, .isub, 1, 0, 0, 0, 0, 0, 0, []), (88, .invokestatic 42, 3, 97, 0, 712, 1, 0, 0, []), (91, .ireturn, 1, 0, 0, 0, 0, 0, 0, [])]
def am_t153 : List aI := [(0, .aload_n 0, 1, 0, 0, 0, 0, 0, 0, []), (1, .iload_n 1, 1, 0, 0, 0, 0, 0, 0, []), (2, .invokevirtual 33, 3, 89, 5, 660, 1, 0, 0, []), (5, .ifCond .eq 19, 3, 24, 0, 0, 0, 0, 0, []), (8, .iload_n 2, 1, 0, 0, 0, 0, 0, 0, []), (9, .invokestatic 106, 3, 91, 0, 679, 1, 0, 0, []), (12, .ifCond .eq 12, 3, 24, 0, 0, 0, 0, 0, []), (15, .aload_n 0, 1, 0, 0, 0, 0, 0, 0, []), (16, .iload_n 1, 1, 0, 0, 0, 0, 0, 0, []), (17, .iload_n 2, 1, 0, 0, 0, 0, 0, 0, []), (18, .invokevirtual 85, 3, 112, 5, 784, 1, 0, 0, []), (21, .goto 5, 3, 26, 0, 0, 0, 0, 0, []), (24, .ldc 101, 2, 0, 0, 667, 0, (-2000001), 0, []), (26, .ireturn, 1, 0, 0, 0, 0, 0, 0, [])]
def am_t154 : List aI := [(0, .iconst 0, 1, 0, 0, 0, 0, 0, 0, []), (1, .istore_n 2, 1, 0, 0, 0, 0, 0, 0, []), (2, .iconst 0, 1, 0, 0, 0, 0, 0, 0, []), (3, .istore_n 3, 1, 0, 0, 0, 0, 0, 0, []), (4, .iload_n 3, 1, 0, 0, 0, 0, 0, 0, []), (5, .bipush 12, 2, 0, 0, 0, 0, 12, 0, []), (7, .aload_n 0, 1, 0, 0, 0, 0, 0, 0, []), (8, .getfield 7, 3, 5, 0, 610, 1, 0, 0, []), (11, .iconst 0, 1, 0, 0, 0, 0, 0, 0, []), (12, .iaload, 1, 0, 0, 0, 0, 0, 0, []), (13, .imul, 1, 0, 0, 0, 0, 0, 0, []), (14, .if_icmp .ge 129, 3, 143, 0, 0, 0, 0, 0, []), (17, .iload_n 3, 1, 0, 0, 0, 0, 0, 0, []), (18, .bipush 12, 2, 0, 0, 0, 0, 12, 0, []), (20, .idiv, 1, 0, 0, 0, 0, 0, 0, []), (21, .istore 4, 2, 0, 0, 0, 0, 0, 0, []), (23, .iload_n 3, 1, 0, 0, 0, 0, 0, 0, []), (24, .bipush 12, 2, 0, 0, 0, 0, 12, 0, []), (26, .irem, 1, 0, 0, 0, 0, 0, 0, []), (27, .iconst 2, 1, 0, 0, 0, 0, 2, 0, []), (28, .idiv, 1, 0, 0, 0, 0, 0, 0, []), (29, .istore 5, 2, 0, 0, 0, 0, 0, 0, []), (31, .iload 4, 2, 0, 0, 0, 0, 0, 0, []), (33, .iload 5, 2, 0, 0, 0, 0, 0, 0, []), (35, .iload_n 3, 1, 0, 0, 0, 0, 0, 0, []), (36, .iconst 2, 1, 0, 0, 0, 0, 2, 0, []), (37, .irem, 1, 0, 0, 0, 0, 0, 0, []), (38, .invokestatic 61, 3, 88, 0, 668, 1, 0, 0, []), (41, .istore 6, 2, 0, 0, 0, 0, 0, 0, []), (43, .aload_n 0, 1, 0, 0, 0, 0, 0, 0, []), (44, .iload 4, 2, 0, 0, 0, 0, 0, 0, []), (46, .iload 5, 2, 0, 0, 0, 0, 0, 0, []), (48, .invokevirtual 102, 3, 90, 5, 675, 1, 0, 0, []), (51, .ifCond .eq 86, 3, 137, 0, 0, 0, 0, 0, []), (54, .iload_n 2, 1, 0, 0, 0, 0, 0, 0, []), (55, .iload_n 1, 1, 0, 0, 0, 0, 0, 0, []), (56, .iconst 2, 1, 0, 0, 0, 0, 2, 0, []), (57, .if_icmp .ne 15, 3, 72, 0, 0, 0, 0, 0, []), (60, .aload_n 0, 1, 0, 0, 0, 0, 0, 0, []), (61, .getfield 7, 3, 5, 0, 610, 1, 0, 0, []), (64, .iload 6, 2, 0, 0, 0, 0, 0, 0, []), (66, .iconst 0, 1, 0, 0, 0, 0, 0, 0, []), (67, .iadd, 1, 0, 0, 0, 0, 0, 0, []), (68, .iaload, 1, 0, 0, 0, 0, 0, 0, []), (69, .goto 66, 3, 135, 0, 0, 0, 0, 0, []), (72, .iload_n 1, 1, 0, 0, 0, 0, 0, 0, []), (73, .iconst 3, 1, 0, 0, 0, 0, 3, 0, []), (74, .if_icmp .ne 12, 3, 86, 0, 0, 0, 0, 0, []), (77, .aload_n 0, 1, 0, 0, 0, 0, 0, 0, []), (78, .iload 6, 2, 0, 0, 0, 0, 0, 0, []), (80, .invokevirtual 118, 3, 104, 5, 725, 1, 0, 0, []), (83, .goto 52, 3, 135, 0, 0, 0, 0, 0, []), (86, .iload_n 1, 1, 0, 0, 0, 0, 0, 0, []), (87, .bipush 6, 2, 0, 0, 0, 0, 6, 0, []), (89, .if_icmp .ne 15, 3, 104, 0, 0, 0, 0, 0, []), (92, .aload_n 0, 1, 0, 0, 0, 0, 0, 0, []), (93, .getfield 7, 3, 5, 0, 610, 1, 0, 0, []), (96, .iload 6, 2, 0, 0, 0, 0, 0, 0, []), (98, .iconst 1, 1, 0, 0, 0, 0, 1, 0, []), (99, .iadd, 1, 0, 0, 0, 0, 0, 0, []), (100, .iaload, 1, 0, 0, 0, 0, 0, 0, []), (101, .goto 34, 3, 135, 0, 0, 0, 0, 0, []), (104, .iload_n 3, 1, 0, 0, 0, 0, 0, 0, []), (105, .iconst 2, 1, 0, 0, 0, 0, 2, 0, []), (106, .irem, 1, 0, 0, 0, 0, 0, 0, []), (107, .iconst 1, 1, 0, 0, 0, 0, 1, 0, []), (108, .if_icmp .ne 7, 3, 115, 0, 0, 0, 0, 0, []), (111, .iconst 0, 1, 0, 0, 0, 0, 0, 0, []), (112, .goto 23, 3, 135, 0, 0, 0, 0, 0, []), (115, .iload_n 1, 1, 0, 0, 0, 0, 0, 0, []), (116, .iconst 1, 1, 0, 0, 0, 0, 1, 0, []), (117, .if_icmp .ne 7, 3, 124, 0, 0, 0, 0, 0, []), (120, .iconst 1, 1, 0, 0, 0, 0, 1, 0, []), (121, .goto 14, 3, 135, 0, 0, 0, 0, 0, []), (124, .aload_n 0, 1, 0, 0, 0, 0, 0, 0, []), (125, .iload 4, 2, 0, 0, 0, 0, 0, 0, []), (127, .iload 5, 2, 0, 0, 0, 0, 0, 0, []), (129, .invokevirtual 178, 3, 115, 5, 872, 1, 0, 0, []), (132, .invokestatic 204, 3, 155, 0, 925, 1, 0, 0, []), (135, .iadd, 1, 0, 0, 0, 0, 0, 0, []), (136, .istore_n 2, 1, 0, 0, 0, 0, 0, 0, []), (137, .iinc 3 1, 3, 0, 0, 0, 0, 1, 0, []), (140, .goto (-136), 3, 4, 0, 0, 0, 0, 0, []), (143, .iload_n 2, 1, 0, 0, 0, 0, 0, 0, []), (144, .ireturn, 1, 0, 0, 0, 0, 0, 0, [])]
def am_t155 : List aI := [(0, .iconst 0, 1, 0, 0, 0, 0, 0, 0, []), (1, .istore_n 1, 1, 0, 0, 0, 0, 0, 0, []), (2, .iconst 0, 1, 0, 0, 0, 0, 0, 0, []), (3, .istore_n 2, 1, 0, 0, 0, 0, 0, 0, []), (4, .iload_n 2, 1, 0, 0, 0, 0, 0, 0, []), (5, .bipush 6, 2, 0, 0, 0, 0, 6, 0, []), (7, .if_icmp .ge 17, 3, 24, 0, 0, 0, 0, 0, []), (10, .iload_n 1, 1, 0, 0, 0, 0, 0, 0, []), (11, .iload_n 0, 1, 0, 0, 0, 0, 0, 0, []), (12, .iload_n 2, 1, 0, 0, 0, 0, 0, 0, []), (13, .ishr, 1, 0, 0, 0, 0, 0, 0, []), (14, .iconst 1, 1, 0, 0, 0, 0, 1, 0, []), (15, .iand, 1, 0, 0, 0, 0, 0, 0, []), (16, .iadd, 1, 0, 0, 0, 0, 0, 0, []), (17, .istore_n 1, 1, 0, 0, 0, 0, 0, 0, []), (18, .iinc 2 1, 3, 0, 0, 0, 0, 1, 0, []), (21, .goto (-17), 3, 4, 0, 0, 0, 0, 0, []), (24, .iload_n 1, 1, 0, 0, 0, 0, 0, 0, []), (25, .ireturn, 1, 0, 0, 0, 0, 0, 0, [])]
def am_t156 : List aI := [(0, .iload_n 1, 1, 0, 0, 0, 0, 0, 0, []), (1, .tableswitch 81 0 8 #[51, 58, 58, 58, 58, 64, 58, 71, 76], 51, 82, 0, 0, 0, 0, 0, [(0, 52), (1, 59), (2, 59), (3, 59), (4, 59), (5, 65), (6, 59), (7, 72), (8, 77)]), (52, .aload_n 0, 1, 0, 0, 0, 0, 0, 0, []), (53, .getfield 7, 3, 5, 0, 610, 1, 0, 0, []), (56, .iconst 0, 1, 0, 0, 0, 0, 0, 0, []), (57, .iaload, 1, 0, 0, 0, 0, 0, 0, []), (58, .ireturn, 1, 0, 0, 0, 0, 0, 0, []), (59, .aload_n 0, 1, 0, 0, 0, 0, 0, 0, []), (60, .iload_n 1, 1, 0, 0, 0, 0, 0, 0, []), (61, .invokevirtual 207, 3, 154, 5, 921, 1, 0, 0, []), (64, .ireturn, 1, 0, 0, 0, 0, 0, 0, []), (65, .aload_n 0, 1, 0, 0, 0, 0, 0, 0, []), (66, .getfield 7, 3, 5, 0, 610, 1, 0, 0, []), (69, .iconst 1, 1, 0, 0, 0, 0, 1, 0, []), (70, .iaload, 1, 0, 0, 0, 0, 0, 0, []), (71, .ireturn, 1, 0, 0, 0, 0, 0, 0, []), (72, .aload_n 0, 1, 0, 0, 0, 0, 0, 0, []), (73, .getfield 37, 3, 5, 3, 613, 0, 0, 0, []), (76, .ireturn, 1, 0, 0, 0, 0, 0, 0, []), (77, .aload_n 0, 1, 0, 0, 0, 0, 0, 0, []), (78, .getfield 136, 3, 5, 7, 617, 0, 0, 0, []), (81, .ireturn, 1, 0, 0, 0, 0, 0, 0, []), (82, .ldc 110, 2, 0, 0, 683, 0, (-2000002), 0, []), (84, .ireturn, 1, 0, 0, 0, 0, 0, 0, [])]
def am_t157 : List aI := [(0, .aload_n 0, 1, 0, 0, 0, 0, 0, 0, []), (1, .iload_n 1, 1, 0, 0, 0, 0, 0, 0, []), (2, .invokevirtual 33, 3, 89, 5, 660, 1, 0, 0, []), (5, .ifCond .ne 8, 3, 13, 0, 0, 0, 0, 0, []), (8, .ldc 101, 2, 0, 0, 667, 0, (-2000001), 0, []), (10, .goto 21, 3, 31, 0, 0, 0, 0, 0, []), (13, .aload_n 0, 1, 0, 0, 0, 0, 0, 0, []), (14, .getfield 7, 3, 5, 0, 610, 1, 0, 0, []), (17, .iload_n 1, 1, 0, 0, 0, 0, 0, 0, []), (18, .iload_n 2, 1, 0, 0, 0, 0, 0, 0, []), (19, .ifCond .eq 7, 3, 26, 0, 0, 0, 0, 0, []), (22, .iconst 2, 1, 0, 0, 0, 0, 2, 0, []), (23, .goto 4, 3, 27, 0, 0, 0, 0, 0, []), (26, .iconst 1, 1, 0, 0, 0, 0, 1, 0, []), (27, .invokestatic 25, 3, 87, 0, 653, 1, 0, 0, []), (30, .iaload, 1, 0, 0, 0, 0, 0, 0, []), (31, .ireturn, 1, 0, 0, 0, 0, 0, 0, [])]
def am_t158 : List aI := [(0, .iload_n 0, 1, 0, 0, 0, 0, 0, 0, []), (1, .iload_n 0, 1, 0, 0, 0, 0, 0, 0, []), (2, .iconst 1, 1, 0, 0, 0, 0, 1, 0, []), (3, .iushr, 1, 0, 0, 0, 0, 0, 0, []), (4, .ldc_w 265, 3, 0, 0, 502, 0, 1431655765, 0, []), (7, .iand, 1, 0, 0, 0, 0, 0, 0, []), (8, .isub, 1, 0, 0, 0, 0, 0, 0, []), (9, .istore_n 0, 1, 0, 0, 0, 0, 0, 0, []), (10, .iload_n 0, 1, 0, 0, 0, 0, 0, 0, []), (11, .ldc_w 266, 3, 0, 0, 503, 0, 858993459, 0, []), (14, .iand, 1, 0, 0, 0, 0, 0, 0, []), (15, .iload_n 0, 1, 0, 0, 0, 0, 0, 0, []), (16, .iconst 2, 1, 0, 0, 0, 0, 2, 0, []), (17, .iushr, 1, 0, 0, 0, 0, 0, 0, []), (18, .ldc_w 266, 3, 0, 0, 503, 0, 858993459, 0, []), (21, .iand, 1, 0, 0, 0, 0, 0, 0, []), (22, .iadd, 1, 0, 0, 0, 0, 0, 0, []), (23, .istore_n 0, 1, 0, 0, 0, 0, 0, 0, []), (24, .iload_n 0, 1, 0, 0, 0, 0, 0, 0, []), (25, .iload_n 0, 1, 0, 0, 0, 0, 0, 0, []), (26, .iconst 4, 1, 0, 0, 0, 0, 4, 0, []), (27, .iushr, 1, 0, 0, 0, 0, 0, 0, []), (28, .iadd, 1, 0, 0, 0, 0, 0, 0, []), (29, .ldc_w 267, 3, 0, 0, 504, 0, 252645135, 0, []), (32, .iand, 1, 0, 0, 0, 0, 0, 0, []), (33, .istore_n 0, 1, 0, 0, 0, 0, 0, 0, []), (34, .iload_n 0, 1, 0, 0, 0, 0, 0, 0, []), (35, .iload_n 0, 1, 0, 0, 0, 0, 0, 0, []), (36, .bipush 8, 2, 0, 0, 0, 0, 8, 0, []), (38, .iushr, 1, 0, 0, 0, 0, 0, 0, []), (39, .iadd, 1, 0, 0, 0, 0, 0, 0, []), (40, .istore_n 0, 1, 0, 0, 0, 0, 0, 0, []), (41, .iload_n 0, 1, 0, 0, 0, 0, 0, 0, []), (42, .iload_n 0, 1, 0, 0, 0, 0, 0, 0, []), (43, .bipush 16, 2, 0, 0, 0, 0, 16, 0, []), (45, .iushr, 1, 0, 0, 0, 0, 0, 0, []), (46, .iadd, 1, 0, 0, 0, 0, 0, 0, []), (47, .istore_n 0, 1, 0, 0, 0, 0, 0, 0, []), (48, .iload_n 0, 1, 0, 0, 0, 0, 0, 0, []), (49, .bipush 63, 2, 0, 0, 0, 0, 63, 0, []), (51, .iand, 1, 0, 0, 0, 0, 0, 0, []), (52, .ireturn, 1, 0, 0, 0, 0, 0, 0, [])]
def am_t159 : List aI := [(0, .iload_n 0, 1, 0, 0, 0, 0, 0, 0, []), (1, .iload_n 1, 1, 0, 0, 0, 0, 0, 0, []), (2, .idiv, 1, 0, 0, 0, 0, 0, 0, []), (3, .istore_n 2, 1, 0, 0, 0, 0, 0, 0, []), (4, .iload_n 0, 1, 0, 0, 0, 0, 0, 0, []), (5, .iload_n 1, 1, 0, 0, 0, 0, 0, 0, []), (6, .ixor, 1, 0, 0, 0, 0, 0, 0, []), (7, .ifCond .ge 14, 3, 21, 0, 0, 0, 0, 0, []), (10, .iload_n 2, 1, 0, 0, 0, 0, 0, 0, []), (11, .iload_n 1, 1, 0, 0, 0, 0, 0, 0, []), (12, .imul, 1, 0, 0, 0, 0, 0, 0, []), (13, .iload_n 0, 1, 0, 0, 0, 0, 0, 0, []), (14, .if_icmp .eq 7, 3, 21, 0, 0, 0, 0, 0, []), (17, .iload_n 2, 1, 0, 0, 0, 0, 0, 0, []), (18, .iconst 1, 1, 0, 0, 0, 0, 1, 0, []), (19, .isub, 1, 0, 0, 0, 0, 0, 0, []), (20, .ireturn, 1, 0, 0, 0, 0, 0, 0, []), (21, .iload_n 2, 1, 0, 0, 0, 0, 0, 0, []), (22, .ireturn, 1, 0, 0, 0, 0, 0, 0, [])]
def am_t160 : List aI := [(0, .iload_n 0, 1, 0, 0, 0, 0, 0, 0, []), (1, .iload_n 1, 1, 0, 0, 0, 0, 0, 0, []), (2, .irem, 1, 0, 0, 0, 0, 0, 0, []), (3, .istore_n 2, 1, 0, 0, 0, 0, 0, 0, []), (4, .iload_n 0, 1, 0, 0, 0, 0, 0, 0, []), (5, .iload_n 1, 1, 0, 0, 0, 0, 0, 0, []), (6, .ixor, 1, 0, 0, 0, 0, 0, 0, []), (7, .ifCond .ge 11, 3, 18, 0, 0, 0, 0, 0, []), (10, .iload_n 2, 1, 0, 0, 0, 0, 0, 0, []), (11, .ifCond .eq 7, 3, 18, 0, 0, 0, 0, 0, []), (14, .iload_n 2, 1, 0, 0, 0, 0, 0, 0, []), (15, .iload_n 1, 1, 0, 0, 0, 0, 0, 0, []), (16, .iadd, 1, 0, 0, 0, 0, 0, 0, []), (17, .ireturn, 1, 0, 0, 0, 0, 0, 0, []), (18, .iload_n 2, 1, 0, 0, 0, 0, 0, 0, []), (19, .ireturn, 1, 0, 0, 0, 0, 0, 0, [])]
def am_t161 : List aI := [(0, .iload_n 0, 1, 0, 0, 0, 0, 0, 0, []), (1, .ifCond .ge 8, 3, 9, 0, 0, 0, 0, 0, []), (4, .iload_n 0, 1, 0, 0, 0, 0, 0, 0, []), (5, .ineg, 1, 0, 0, 0, 0, 0, 0, []), (6, .goto 4, 3, 10, 0, 0, 0, 0, 0, []), (9, .iload_n 0, 1, 0, 0, 0, 0, 0, 0, []), (10, .ireturn, 1, 0, 0, 0, 0, 0, 0, [])]
def am_t162 : List aI := [(0, .iload_n 0, 1, 0, 0, 0, 0, 0, 0, []), (1, .iload_n 1, 1, 0, 0, 0, 0, 0, 0, []), (2, .if_icmp .lt 7, 3, 9, 0, 0, 0, 0, 0, []), (5, .iload_n 0, 1, 0, 0, 0, 0, 0, 0, []), (6, .goto 4, 3, 10, 0, 0, 0, 0, 0, []), (9, .iload_n 1, 1, 0, 0, 0, 0, 0, 0, []), (10, .ireturn, 1, 0, 0, 0, 0, 0, 0, [])]
def am_t163 : List aI := [(0, .iconst 0, 1, 0, 0, 0, 0, 0, 0, []), (1, .istore_n 2, 1, 0, 0, 0, 0, 0, 0, []), (2, .aload_n 0, 1, 0, 0, 0, 0, 0, 0, []), (3, .arraylength, 1, 0, 0, 0, 0, 0, 0, []), (4, .istore_n 3, 1, 0, 0, 0, 0, 0, 0, []), (5, .iload_n 2, 1, 0, 0, 0, 0, 0, 0, []), (6, .iload_n 3, 1, 0, 0, 0, 0, 0, 0, []), (7, .if_icmp .ge 13, 3, 20, 0, 0, 0, 0, 0, []), (10, .aload_n 0, 1, 0, 0, 0, 0, 0, 0, []), (11, .iload_n 2, 1, 0, 0, 0, 0, 0, 0, []), (12, .iload_n 1, 1, 0, 0, 0, 0, 0, 0, []), (13, .iastore, 1, 0, 0, 0, 0, 0, 0, []), (14, .iinc 2 1, 3, 0, 0, 0, 0, 1, 0, []), (17, .goto (-12), 3, 5, 0, 0, 0, 0, 0, []), (20, .return_, 1, 0, 0, 0, 0, 0, 0, [])]
def am_t164_0 : List aI := [(0, .new 7, 3, 4, 58, 68, 6, 69, 0, []), (3, .dup, 1, 0, 0, 0, 0, 0, 0, []), (4, .invokespecial 9, 3, 50, 0, 70, 0, 0, 0, []), (7, .astore_n 1, 1, 0, 0, 0, 0, 0, 0, []), (8, .new 10, 3, 5, 64, 604, 11, 605, 0, []), (11, .dup, 1, 0, 0, 0, 0, 0, 0, []), (12, .invokespecial 12, 3, 85, 0, 606, 0, 0, 0, []), (15, .astore_n 2, 1, 0, 0, 0, 0, 0, 0, []), (16, .iconst 0, 1, 0, 0, 0, 0, 0, 0, []), (17, .istore_n 3, 1, 0, 0, 0, 0, 0, 0, []), (18, .iload_n 3, 1, 0, 0, 0, 0, 0, 0, []), (19, .aload_n 0, 1, 0, 0, 0, 0, 0, 0, []), (20, .arraylength, 1, 0, 0, 0, 0, 0, 0, []), (21, .bipush 6, 2, 0, 0, 0, 0, 6, 0, []), (23, .isub, 1, 0, 0, 0, 0, 0, 0, []), (24, .if_icmp .gt 1008, 3, 1032, 0, 0, 0, 0, 0, []), (27, .aload_n 0, 1, 0, 0, 0, 0, 0, 0, []), (28, .iload_n 3, 1, 0, 0, 0, 0, 0, 0, []), (29, .iaload, 1, 0, 0, 0, 0, 0, 0, []), (30, .bipush 31, 2, 0, 0, 0, 0, 31, 0, []), (32, .iand, 1, 0, 0, 0, 0, 0, 0, []), (33, .tableswitch 993 0 23 #[111, 124, 147, 210, 243, 296, 375, 418, 441, 464, 507, 540, 565, 578, 591, 604, 617, 680, 723, 776, 819, 888, 921, 944], 111, 1026, 0, 0, 0, 0, 0, [(0, 144), (1, 157), (2, 180), (3, 243), (4, 276), (5, 329), (6, 408), (7, 451), (8, 474), (9, 497), (10, 540), (11, 573), (12, 598), (13, 611), (14, 624), (15, 637), (16, 650), (17, 713), (18, 756), (19, 809), (20, 852), (21, 921), (22, 954), (23, 977)]), (144, .aload_n 1, 1, 0, 0, 0, 0, 0, 0, []), (145, .invokevirtual 13, 3, 51, 4, 234, 1, 0, 0, []), (148, .aload_n 2, 1, 0, 0, 0, 0, 0, 0, []), (149, .invokevirtual 17, 3, 116, 5, 644, 1, 0, 0, []), (152, .if_icmp .eq 874, 3, 1026, 0, 0, 0, 0, 0, []), (155, .iconst 0, 1, 0, 0, 0, 0, 0, 0, []), (156, .ireturn, 1, 0, 0, 0, 1, 0, 0, []), (157, .aload_n 1, 1, 0, 0, 0, 0, 0, 0, []), (158, .aload_n 0, 1, 0, 0, 0, 0, 0, 0, []), (159, .iload_n 3, 1, 0, 0, 0, 0, 0, 0, []), (160, .iconst 1, 1, 0, 0, 0, 0, 1, 0, []), (161, .iadd, 1, 0, 0, 0, 0, 0, 0, []), (162, .iaload, 1, 0, 0, 0, 0, 0, 0, []), (163, .invokevirtual 18, 3, 52, 4, 254, 1, 0, 0, []), (166, .aload_n 2, 1, 0, 0, 0, 0, 0, 0, []), (167, .aload_n 0, 1, 0, 0, 0, 0, 0, 0, []), (168, .iload_n 3, 1, 0, 0, 0, 0, 0, 0, []), (169, .iconst 1, 1, 0, 0, 0, 0, 1, 0, [])]
def am_t164_1 : List aI := [(170, .iadd, 1, 0, 0, 0, 0, 0, 0, []), (171, .iaload, 1, 0, 0, 0, 0, 0, 0, []), (172, .invokevirtual 22, 3, 117, 5, 656, 1, 0, 0, []), (175, .if_icmp .eq 851, 3, 1026, 0, 0, 0, 0, 0, []), (178, .iconst 0, 1, 0, 0, 0, 0, 0, 0, []), (179, .ireturn, 1, 0, 0, 0, 1, 0, 0, []), (180, .aload_n 1, 1, 0, 0, 0, 0, 0, 0, []), (181, .aload_n 0, 1, 0, 0, 0, 0, 0, 0, []), (182, .iload_n 3, 1, 0, 0, 0, 0, 0, 0, []), (183, .iconst 1, 1, 0, 0, 0, 0, 1, 0, []), (184, .iadd, 1, 0, 0, 0, 0, 0, 0, []), (185, .iaload, 1, 0, 0, 0, 0, 0, 0, []), (186, .aload_n 0, 1, 0, 0, 0, 0, 0, 0, []), (187, .iload_n 3, 1, 0, 0, 0, 0, 0, 0, []), (188, .iconst 2, 1, 0, 0, 0, 0, 2, 0, []), (189, .iadd, 1, 0, 0, 0, 0, 0, 0, []), (190, .iaload, 1, 0, 0, 0, 0, 0, 0, []), (191, .aload_n 0, 1, 0, 0, 0, 0, 0, 0, []), (192, .iload_n 3, 1, 0, 0, 0, 0, 0, 0, []), (193, .iconst 3, 1, 0, 0, 0, 0, 3, 0, []), (194, .iadd, 1, 0, 0, 0, 0, 0, 0, []), (195, .iaload, 1, 0, 0, 0, 0, 0, 0, []), (196, .aload_n 0, 1, 0, 0, 0, 0, 0, 0, []), (197, .iload_n 3, 1, 0, 0, 0, 0, 0, 0, []), (198, .iconst 4, 1, 0, 0, 0, 0, 4, 0, []), (199, .iadd, 1, 0, 0, 0, 0, 0, 0, []), (200, .iaload, 1, 0, 0, 0, 0, 0, 0, []), (201, .aload_n 0, 1, 0, 0, 0, 0, 0, 0, []), (202, .iload_n 3, 1, 0, 0, 0, 0, 0, 0, []), (203, .iconst 5, 1, 0, 0, 0, 0, 5, 0, []), (204, .iadd, 1, 0, 0, 0, 0, 0, 0, []), (205, .iaload, 1, 0, 0, 0, 0, 0, 0, []), (206, .invokevirtual 23, 3, 53, 4, 263, 1, 0, 0, []), (209, .aload_n 2, 1, 0, 0, 0, 0, 0, 0, []), (210, .aload_n 0, 1, 0, 0, 0, 0, 0, 0, []), (211, .iload_n 3, 1, 0, 0, 0, 0, 0, 0, []), (212, .iconst 1, 1, 0, 0, 0, 0, 1, 0, []), (213, .iadd, 1, 0, 0, 0, 0, 0, 0, []), (214, .iaload, 1, 0, 0, 0, 0, 0, 0, []), (215, .aload_n 0, 1, 0, 0, 0, 0, 0, 0, [])]
def am_t164_2 : List aI := [(216, .iload_n 3, 1, 0, 0, 0, 0, 0, 0, []), (217, .iconst 2, 1, 0, 0, 0, 0, 2, 0, []), (218, .iadd, 1, 0, 0, 0, 0, 0, 0, []), (219, .iaload, 1, 0, 0, 0, 0, 0, 0, []), (220, .aload_n 0, 1, 0, 0, 0, 0, 0, 0, []), (221, .iload_n 3, 1, 0, 0, 0, 0, 0, 0, []), (222, .iconst 3, 1, 0, 0, 0, 0, 3, 0, []), (223, .iadd, 1, 0, 0, 0, 0, 0, 0, []), (224, .iaload, 1, 0, 0, 0, 0, 0, 0, []), (225, .aload_n 0, 1, 0, 0, 0, 0, 0, 0, []), (226, .iload_n 3, 1, 0, 0, 0, 0, 0, 0, []), (227, .iconst 4, 1, 0, 0, 0, 0, 4, 0, []), (228, .iadd, 1, 0, 0, 0, 0, 0, 0, []), (229, .iaload, 1, 0, 0, 0, 0, 0, 0, []), (230, .aload_n 0, 1, 0, 0, 0, 0, 0, 0, []), (231, .iload_n 3, 1, 0, 0, 0, 0, 0, 0, []), (232, .iconst 5, 1, 0, 0, 0, 0, 5, 0, []), (233, .iadd, 1, 0, 0, 0, 0, 0, 0, []), (234, .iaload, 1, 0, 0, 0, 0, 0, 0, []), (235, .invokevirtual 27, 3, 120, 5, 671, 1, 0, 0, []), (238, .if_icmp .eq 788, 3, 1026, 0, 0, 0, 0, 0, []), (241, .iconst 0, 1, 0, 0, 0, 0, 0, 0, []), (242, .ireturn, 1, 0, 0, 0, 1, 0, 0, []), (243, .aload_n 1, 1, 0, 0, 0, 0, 0, 0, []), (244, .aload_n 0, 1, 0, 0, 0, 0, 0, 0, []), (245, .iload_n 3, 1, 0, 0, 0, 0, 0, 0, []), (246, .iconst 1, 1, 0, 0, 0, 0, 1, 0, []), (247, .iadd, 1, 0, 0, 0, 0, 0, 0, []), (248, .iaload, 1, 0, 0, 0, 0, 0, 0, []), (249, .aload_n 0, 1, 0, 0, 0, 0, 0, 0, []), (250, .iload_n 3, 1, 0, 0, 0, 0, 0, 0, []), (251, .iconst 2, 1, 0, 0, 0, 0, 2, 0, []), (252, .iadd, 1, 0, 0, 0, 0, 0, 0, []), (253, .iaload, 1, 0, 0, 0, 0, 0, 0, []), (254, .invokevirtual 28, 3, 54, 4, 303, 1, 0, 0, []), (257, .aload_n 2, 1, 0, 0, 0, 0, 0, 0, []), (258, .aload_n 0, 1, 0, 0, 0, 0, 0, 0, []), (259, .iload_n 3, 1, 0, 0, 0, 0, 0, 0, []), (260, .iconst 1, 1, 0, 0, 0, 0, 1, 0, []), (261, .iadd, 1, 0, 0, 0, 0, 0, 0, [])]
def am_t164_3 : List aI := [(262, .iaload, 1, 0, 0, 0, 0, 0, 0, []), (263, .aload_n 0, 1, 0, 0, 0, 0, 0, 0, []), (264, .iload_n 3, 1, 0, 0, 0, 0, 0, 0, []), (265, .iconst 2, 1, 0, 0, 0, 0, 2, 0, []), (266, .iadd, 1, 0, 0, 0, 0, 0, 0, []), (267, .iaload, 1, 0, 0, 0, 0, 0, 0, []), (268, .invokevirtual 32, 3, 137, 5, 815, 1, 0, 0, []), (271, .if_icmp .eq 755, 3, 1026, 0, 0, 0, 0, 0, []), (274, .iconst 0, 1, 0, 0, 0, 0, 0, 0, []), (275, .ireturn, 1, 0, 0, 0, 1, 0, 0, []), (276, .aload_n 1, 1, 0, 0, 0, 0, 0, 0, []), (277, .aload_n 0, 1, 0, 0, 0, 0, 0, 0, []), (278, .iload_n 3, 1, 0, 0, 0, 0, 0, 0, []), (279, .iconst 1, 1, 0, 0, 0, 0, 1, 0, []), (280, .iadd, 1, 0, 0, 0, 0, 0, 0, []), (281, .iaload, 1, 0, 0, 0, 0, 0, 0, []), (282, .aload_n 0, 1, 0, 0, 0, 0, 0, 0, []), (283, .iload_n 3, 1, 0, 0, 0, 0, 0, 0, []), (284, .iconst 2, 1, 0, 0, 0, 0, 2, 0, []), (285, .iadd, 1, 0, 0, 0, 0, 0, 0, []), (286, .iaload, 1, 0, 0, 0, 0, 0, 0, []), (287, .aload_n 0, 1, 0, 0, 0, 0, 0, 0, []), (288, .iload_n 3, 1, 0, 0, 0, 0, 0, 0, []), (289, .iconst 3, 1, 0, 0, 0, 0, 3, 0, []), (290, .iadd, 1, 0, 0, 0, 0, 0, 0, []), (291, .iaload, 1, 0, 0, 0, 0, 0, 0, []), (292, .aload_n 0, 1, 0, 0, 0, 0, 0, 0, []), (293, .iload_n 3, 1, 0, 0, 0, 0, 0, 0, []), (294, .iconst 4, 1, 0, 0, 0, 0, 4, 0, []), (295, .iadd, 1, 0, 0, 0, 0, 0, 0, []), (296, .iaload, 1, 0, 0, 0, 0, 0, 0, []), (297, .invokevirtual 33, 3, 55, 4, 344, 1, 0, 0, []), (300, .aload_n 2, 1, 0, 0, 0, 0, 0, 0, []), (301, .aload_n 0, 1, 0, 0, 0, 0, 0, 0, []), (302, .iload_n 3, 1, 0, 0, 0, 0, 0, 0, []), (303, .iconst 1, 1, 0, 0, 0, 0, 1, 0, []), (304, .iadd, 1, 0, 0, 0, 0, 0, 0, []), (305, .iaload, 1, 0, 0, 0, 0, 0, 0, []), (306, .aload_n 0, 1, 0, 0, 0, 0, 0, 0, []), (307, .iload_n 3, 1, 0, 0, 0, 0, 0, 0, [])]
def am_t164_4 : List aI := [(308, .iconst 2, 1, 0, 0, 0, 0, 2, 0, []), (309, .iadd, 1, 0, 0, 0, 0, 0, 0, []), (310, .iaload, 1, 0, 0, 0, 0, 0, 0, []), (311, .aload_n 0, 1, 0, 0, 0, 0, 0, 0, []), (312, .iload_n 3, 1, 0, 0, 0, 0, 0, 0, []), (313, .iconst 3, 1, 0, 0, 0, 0, 3, 0, []), (314, .iadd, 1, 0, 0, 0, 0, 0, 0, []), (315, .iaload, 1, 0, 0, 0, 0, 0, 0, []), (316, .aload_n 0, 1, 0, 0, 0, 0, 0, 0, []), (317, .iload_n 3, 1, 0, 0, 0, 0, 0, 0, []), (318, .iconst 4, 1, 0, 0, 0, 0, 4, 0, []), (319, .iadd, 1, 0, 0, 0, 0, 0, 0, []), (320, .iaload, 1, 0, 0, 0, 0, 0, 0, []), (321, .invokevirtual 37, 3, 121, 5, 701, 1, 0, 0, []), (324, .if_icmp .eq 702, 3, 1026, 0, 0, 0, 0, 0, []), (327, .iconst 0, 1, 0, 0, 0, 0, 0, 0, []), (328, .ireturn, 1, 0, 0, 0, 1, 0, 0, []), (329, .aload_n 1, 1, 0, 0, 0, 0, 0, 0, []), (330, .aload_n 0, 1, 0, 0, 0, 0, 0, 0, []), (331, .iload_n 3, 1, 0, 0, 0, 0, 0, 0, []), (332, .iconst 1, 1, 0, 0, 0, 0, 1, 0, []), (333, .iadd, 1, 0, 0, 0, 0, 0, 0, []), (334, .iaload, 1, 0, 0, 0, 0, 0, 0, []), (335, .aload_n 0, 1, 0, 0, 0, 0, 0, 0, []), (336, .iload_n 3, 1, 0, 0, 0, 0, 0, 0, []), (337, .iconst 2, 1, 0, 0, 0, 0, 2, 0, []), (338, .iadd, 1, 0, 0, 0, 0, 0, 0, []), (339, .iaload, 1, 0, 0, 0, 0, 0, 0, []), (340, .aload_n 0, 1, 0, 0, 0, 0, 0, 0, []), (341, .iload_n 3, 1, 0, 0, 0, 0, 0, 0, []), (342, .iconst 3, 1, 0, 0, 0, 0, 3, 0, []), (343, .iadd, 1, 0, 0, 0, 0, 0, 0, []), (344, .iaload, 1, 0, 0, 0, 0, 0, 0, []), (345, .aload_n 0, 1, 0, 0, 0, 0, 0, 0, []), (346, .iload_n 3, 1, 0, 0, 0, 0, 0, 0, []), (347, .iconst 4, 1, 0, 0, 0, 0, 4, 0, []), (348, .iadd, 1, 0, 0, 0, 0, 0, 0, []), (349, .iaload, 1, 0, 0, 0, 0, 0, 0, []), (350, .aload_n 0, 1, 0, 0, 0, 0, 0, 0, []), (351, .iload_n 3, 1, 0, 0, 0, 0, 0, 0, [])]
def am_t164_5 : List aI := [(352, .iconst 5, 1, 0, 0, 0, 0, 5, 0, []), (353, .iadd, 1, 0, 0, 0, 0, 0, 0, []), (354, .iaload, 1, 0, 0, 0, 0, 0, 0, []), (355, .ifCond .eq 7, 3, 362, 0, 0, 0, 0, 0, []), (358, .iconst 1, 1, 0, 0, 0, 0, 1, 0, []), (359, .goto 4, 3, 363, 0, 0, 0, 0, 0, []), (362, .iconst 0, 1, 0, 0, 0, 0, 0, 0, []), (363, .invokevirtual 38, 3, 56, 4, 358, 1, 0, 0, []), (366, .aload_n 2, 1, 0, 0, 0, 0, 0, 0, []), (367, .aload_n 0, 1, 0, 0, 0, 0, 0, 0, []), (368, .iload_n 3, 1, 0, 0, 0, 0, 0, 0, []), (369, .iconst 1, 1, 0, 0, 0, 0, 1, 0, []), (370, .iadd, 1, 0, 0, 0, 0, 0, 0, []), (371, .iaload, 1, 0, 0, 0, 0, 0, 0, []), (372, .aload_n 0, 1, 0, 0, 0, 0, 0, 0, []), (373, .iload_n 3, 1, 0, 0, 0, 0, 0, 0, []), (374, .iconst 2, 1, 0, 0, 0, 0, 2, 0, []), (375, .iadd, 1, 0, 0, 0, 0, 0, 0, []), (376, .iaload, 1, 0, 0, 0, 0, 0, 0, []), (377, .aload_n 0, 1, 0, 0, 0, 0, 0, 0, []), (378, .iload_n 3, 1, 0, 0, 0, 0, 0, 0, []), (379, .iconst 3, 1, 0, 0, 0, 0, 3, 0, []), (380, .iadd, 1, 0, 0, 0, 0, 0, 0, []), (381, .iaload, 1, 0, 0, 0, 0, 0, 0, []), (382, .aload_n 0, 1, 0, 0, 0, 0, 0, 0, []), (383, .iload_n 3, 1, 0, 0, 0, 0, 0, 0, []), (384, .iconst 4, 1, 0, 0, 0, 0, 4, 0, []), (385, .iadd, 1, 0, 0, 0, 0, 0, 0, []), (386, .iaload, 1, 0, 0, 0, 0, 0, 0, []), (387, .aload_n 0, 1, 0, 0, 0, 0, 0, 0, []), (388, .iload_n 3, 1, 0, 0, 0, 0, 0, 0, []), (389, .iconst 5, 1, 0, 0, 0, 0, 5, 0, []), (390, .iadd, 1, 0, 0, 0, 0, 0, 0, []), (391, .iaload, 1, 0, 0, 0, 0, 0, 0, []), (392, .ifCond .eq 7, 3, 399, 0, 0, 0, 0, 0, []), (395, .iconst 1, 1, 0, 0, 0, 0, 1, 0, []), (396, .goto 4, 3, 400, 0, 0, 0, 0, 0, []), (399, .iconst 0, 1, 0, 0, 0, 0, 0, 0, []), (400, .invokevirtual 42, 3, 123, 5, 717, 1, 0, 0, []), (403, .if_icmp .eq 623, 3, 1026, 0, 0, 0, 0, 0, [])]
def am_t164_6 : List aI := [(406, .iconst 0, 1, 0, 0, 0, 0, 0, 0, []), (407, .ireturn, 1, 0, 0, 0, 1, 0, 0, []), (408, .aload_n 1, 1, 0, 0, 0, 0, 0, 0, []), (409, .aload_n 0, 1, 0, 0, 0, 0, 0, 0, []), (410, .iload_n 3, 1, 0, 0, 0, 0, 0, 0, []), (411, .iconst 1, 1, 0, 0, 0, 0, 1, 0, []), (412, .iadd, 1, 0, 0, 0, 0, 0, 0, []), (413, .iaload, 1, 0, 0, 0, 0, 0, 0, []), (414, .aload_n 0, 1, 0, 0, 0, 0, 0, 0, []), (415, .iload_n 3, 1, 0, 0, 0, 0, 0, 0, []), (416, .iconst 2, 1, 0, 0, 0, 0, 2, 0, []), (417, .iadd, 1, 0, 0, 0, 0, 0, 0, []), (418, .iaload, 1, 0, 0, 0, 0, 0, 0, []), (419, .aload_n 0, 1, 0, 0, 0, 0, 0, 0, []), (420, .iload_n 3, 1, 0, 0, 0, 0, 0, 0, []), (421, .iconst 3, 1, 0, 0, 0, 0, 3, 0, []), (422, .iadd, 1, 0, 0, 0, 0, 0, 0, []), (423, .iaload, 1, 0, 0, 0, 0, 0, 0, []), (424, .invokevirtual 43, 3, 57, 4, 373, 1, 0, 0, []), (427, .aload_n 2, 1, 0, 0, 0, 0, 0, 0, []), (428, .aload_n 0, 1, 0, 0, 0, 0, 0, 0, []), (429, .iload_n 3, 1, 0, 0, 0, 0, 0, 0, []), (430, .iconst 1, 1, 0, 0, 0, 0, 1, 0, []), (431, .iadd, 1, 0, 0, 0, 0, 0, 0, []), (432, .iaload, 1, 0, 0, 0, 0, 0, 0, []), (433, .aload_n 0, 1, 0, 0, 0, 0, 0, 0, []), (434, .iload_n 3, 1, 0, 0, 0, 0, 0, 0, []), (435, .iconst 2, 1, 0, 0, 0, 0, 2, 0, []), (436, .iadd, 1, 0, 0, 0, 0, 0, 0, []), (437, .iaload, 1, 0, 0, 0, 0, 0, 0, []), (438, .aload_n 0, 1, 0, 0, 0, 0, 0, 0, []), (439, .iload_n 3, 1, 0, 0, 0, 0, 0, 0, []), (440, .iconst 3, 1, 0, 0, 0, 0, 3, 0, []), (441, .iadd, 1, 0, 0, 0, 0, 0, 0, []), (442, .iaload, 1, 0, 0, 0, 0, 0, 0, []), (443, .invokevirtual 47, 3, 126, 5, 729, 1, 0, 0, []), (446, .if_icmp .eq 580, 3, 1026, 0, 0, 0, 0, 0, []), (449, .iconst 0, 1, 0, 0, 0, 0, 0, 0, []), (450, .ireturn, 1, 0, 0, 0, 1, 0, 0, []), (451, .aload_n 1, 1, 0, 0, 0, 0, 0, 0, [])]
def am_t164_7 : List aI := [(452, .aload_n 0, 1, 0, 0, 0, 0, 0, 0, []), (453, .iload_n 3, 1, 0, 0, 0, 0, 0, 0, []), (454, .iconst 1, 1, 0, 0, 0, 0, 1, 0, []), (455, .iadd, 1, 0, 0, 0, 0, 0, 0, []), (456, .iaload, 1, 0, 0, 0, 0, 0, 0, []), (457, .invokevirtual 48, 3, 58, 4, 381, 1, 0, 0, []), (460, .aload_n 2, 1, 0, 0, 0, 0, 0, 0, []), (461, .aload_n 0, 1, 0, 0, 0, 0, 0, 0, []), (462, .iload_n 3, 1, 0, 0, 0, 0, 0, 0, []), (463, .iconst 1, 1, 0, 0, 0, 0, 1, 0, []), (464, .iadd, 1, 0, 0, 0, 0, 0, 0, []), (465, .iaload, 1, 0, 0, 0, 0, 0, 0, []), (466, .invokevirtual 51, 3, 128, 5, 741, 1, 0, 0, []), (469, .if_icmp .eq 557, 3, 1026, 0, 0, 0, 0, 0, []), (472, .iconst 0, 1, 0, 0, 0, 0, 0, 0, []), (473, .ireturn, 1, 0, 0, 0, 1, 0, 0, []), (474, .aload_n 1, 1, 0, 0, 0, 0, 0, 0, []), (475, .aload_n 0, 1, 0, 0, 0, 0, 0, 0, []), (476, .iload_n 3, 1, 0, 0, 0, 0, 0, 0, []), (477, .iconst 1, 1, 0, 0, 0, 0, 1, 0, []), (478, .iadd, 1, 0, 0, 0, 0, 0, 0, []), (479, .iaload, 1, 0, 0, 0, 0, 0, 0, []), (480, .invokevirtual 52, 3, 59, 4, 445, 1, 0, 0, []), (483, .aload_n 2, 1, 0, 0, 0, 0, 0, 0, []), (484, .aload_n 0, 1, 0, 0, 0, 0, 0, 0, []), (485, .iload_n 3, 1, 0, 0, 0, 0, 0, 0, []), (486, .iconst 1, 1, 0, 0, 0, 0, 1, 0, []), (487, .iadd, 1, 0, 0, 0, 0, 0, 0, []), (488, .iaload, 1, 0, 0, 0, 0, 0, 0, []), (489, .invokevirtual 55, 3, 129, 5, 791, 1, 0, 0, []), (492, .if_icmp .eq 534, 3, 1026, 0, 0, 0, 0, 0, []), (495, .iconst 0, 1, 0, 0, 0, 0, 0, 0, []), (496, .ireturn, 1, 0, 0, 0, 1, 0, 0, []), (497, .aload_n 1, 1, 0, 0, 0, 0, 0, 0, []), (498, .aload_n 0, 1, 0, 0, 0, 0, 0, 0, []), (499, .iload_n 3, 1, 0, 0, 0, 0, 0, 0, []), (500, .iconst 1, 1, 0, 0, 0, 0, 1, 0, []), (501, .iadd, 1, 0, 0, 0, 0, 0, 0, []), (502, .iaload, 1, 0, 0, 0, 0, 0, 0, []), (503, .aload_n 0, 1, 0, 0, 0, 0, 0, 0, [])]
def am_t164_8 : List aI := [(504, .iload_n 3, 1, 0, 0, 0, 0, 0, 0, []), (505, .iconst 2, 1, 0, 0, 0, 0, 2, 0, []), (506, .iadd, 1, 0, 0, 0, 0, 0, 0, []), (507, .iaload, 1, 0, 0, 0, 0, 0, 0, []), (508, .aload_n 0, 1, 0, 0, 0, 0, 0, 0, []), (509, .iload_n 3, 1, 0, 0, 0, 0, 0, 0, []), (510, .iconst 3, 1, 0, 0, 0, 0, 3, 0, []), (511, .iadd, 1, 0, 0, 0, 0, 0, 0, []), (512, .iaload, 1, 0, 0, 0, 0, 0, 0, []), (513, .invokevirtual 56, 3, 60, 4, 449, 1, 0, 0, []), (516, .aload_n 2, 1, 0, 0, 0, 0, 0, 0, []), (517, .aload_n 0, 1, 0, 0, 0, 0, 0, 0, []), (518, .iload_n 3, 1, 0, 0, 0, 0, 0, 0, []), (519, .iconst 1, 1, 0, 0, 0, 0, 1, 0, []), (520, .iadd, 1, 0, 0, 0, 0, 0, 0, []), (521, .iaload, 1, 0, 0, 0, 0, 0, 0, []), (522, .aload_n 0, 1, 0, 0, 0, 0, 0, 0, []), (523, .iload_n 3, 1, 0, 0, 0, 0, 0, 0, []), (524, .iconst 2, 1, 0, 0, 0, 0, 2, 0, []), (525, .iadd, 1, 0, 0, 0, 0, 0, 0, []), (526, .iaload, 1, 0, 0, 0, 0, 0, 0, []), (527, .aload_n 0, 1, 0, 0, 0, 0, 0, 0, []), (528, .iload_n 3, 1, 0, 0, 0, 0, 0, 0, []), (529, .iconst 3, 1, 0, 0, 0, 0, 3, 0, []), (530, .iadd, 1, 0, 0, 0, 0, 0, 0, []), (531, .iaload, 1, 0, 0, 0, 0, 0, 0, []), (532, .invokevirtual 59, 3, 130, 5, 799, 1, 0, 0, []), (535, .if_icmp .eq 491, 3, 1026, 0, 0, 0, 0, 0, []), (538, .iconst 0, 1, 0, 0, 0, 0, 0, 0, []), (539, .ireturn, 1, 0, 0, 0, 1, 0, 0, []), (540, .aload_n 1, 1, 0, 0, 0, 0, 0, 0, []), (541, .aload_n 0, 1, 0, 0, 0, 0, 0, 0, []), (542, .iload_n 3, 1, 0, 0, 0, 0, 0, 0, []), (543, .iconst 1, 1, 0, 0, 0, 0, 1, 0, []), (544, .iadd, 1, 0, 0, 0, 0, 0, 0, []), (545, .iaload, 1, 0, 0, 0, 0, 0, 0, []), (546, .aload_n 0, 1, 0, 0, 0, 0, 0, 0, []), (547, .iload_n 3, 1, 0, 0, 0, 0, 0, 0, []), (548, .iconst 2, 1, 0, 0, 0, 0, 2, 0, []), (549, .iadd, 1, 0, 0, 0, 0, 0, 0, [])]
def am_t164_9 : List aI := [(550, .iaload, 1, 0, 0, 0, 0, 0, 0, []), (551, .invokevirtual 60, 3, 61, 4, 453, 1, 0, 0, []), (554, .aload_n 2, 1, 0, 0, 0, 0, 0, 0, []), (555, .aload_n 0, 1, 0, 0, 0, 0, 0, 0, []), (556, .iload_n 3, 1, 0, 0, 0, 0, 0, 0, []), (557, .iconst 1, 1, 0, 0, 0, 0, 1, 0, []), (558, .iadd, 1, 0, 0, 0, 0, 0, 0, []), (559, .iaload, 1, 0, 0, 0, 0, 0, 0, []), (560, .aload_n 0, 1, 0, 0, 0, 0, 0, 0, []), (561, .iload_n 3, 1, 0, 0, 0, 0, 0, 0, []), (562, .iconst 2, 1, 0, 0, 0, 0, 2, 0, []), (563, .iadd, 1, 0, 0, 0, 0, 0, 0, []), (564, .iaload, 1, 0, 0, 0, 0, 0, 0, []), (565, .invokevirtual 63, 3, 131, 5, 803, 1, 0, 0, []), (568, .if_icmp .eq 458, 3, 1026, 0, 0, 0, 0, 0, []), (571, .iconst 0, 1, 0, 0, 0, 0, 0, 0, []), (572, .ireturn, 1, 0, 0, 0, 1, 0, 0, []), (573, .aload_n 1, 1, 0, 0, 0, 0, 0, 0, []), (574, .aload_n 0, 1, 0, 0, 0, 0, 0, 0, []), (575, .iload_n 3, 1, 0, 0, 0, 0, 0, 0, []), (576, .iconst 1, 1, 0, 0, 0, 0, 1, 0, []), (577, .iadd, 1, 0, 0, 0, 0, 0, 0, []), (578, .iaload, 1, 0, 0, 0, 0, 0, 0, []), (579, .i2c, 1, 0, 0, 0, 0, 0, 0, []), (580, .invokevirtual 64, 3, 62, 4, 457, 1, 0, 0, []), (583, .aload_n 2, 1, 0, 0, 0, 0, 0, 0, []), (584, .aload_n 0, 1, 0, 0, 0, 0, 0, 0, []), (585, .iload_n 3, 1, 0, 0, 0, 0, 0, 0, []), (586, .iconst 1, 1, 0, 0, 0, 0, 1, 0, []), (587, .iadd, 1, 0, 0, 0, 0, 0, 0, []), (588, .iaload, 1, 0, 0, 0, 0, 0, 0, []), (589, .i2c, 1, 0, 0, 0, 0, 0, 0, []), (590, .invokevirtual 68, 3, 132, 5, 807, 1, 0, 0, []), (593, .if_icmp .eq 433, 3, 1026, 0, 0, 0, 0, 0, []), (596, .iconst 0, 1, 0, 0, 0, 0, 0, 0, []), (597, .ireturn, 1, 0, 0, 0, 1, 0, 0, []), (598, .aload_n 1, 1, 0, 0, 0, 0, 0, 0, []), (599, .invokevirtual 69, 3, 63, 4, 461, 1, 0, 0, []), (602, .aload_n 2, 1, 0, 0, 0, 0, 0, 0, []), (603, .invokevirtual 72, 3, 133, 5, 811, 1, 0, 0, [])]
def am_t164_10 : List aI := [(606, .if_icmp .eq 420, 3, 1026, 0, 0, 0, 0, 0, []), (609, .iconst 0, 1, 0, 0, 0, 0, 0, 0, []), (610, .ireturn, 1, 0, 0, 0, 1, 0, 0, []), (611, .aload_n 1, 1, 0, 0, 0, 0, 0, 0, []), (612, .invokevirtual 73, 3, 64, 4, 465, 1, 0, 0, []), (615, .aload_n 2, 1, 0, 0, 0, 0, 0, 0, []), (616, .invokevirtual 76, 3, 138, 5, 840, 1, 0, 0, []), (619, .if_icmp .eq 407, 3, 1026, 0, 0, 0, 0, 0, []), (622, .iconst 0, 1, 0, 0, 0, 0, 0, 0, []), (623, .ireturn, 1, 0, 0, 0, 1, 0, 0, []), (624, .aload_n 1, 1, 0, 0, 0, 0, 0, 0, []), (625, .invokevirtual 77, 3, 65, 4, 473, 1, 0, 0, []), (628, .aload_n 2, 1, 0, 0, 0, 0, 0, 0, []), (629, .invokevirtual 80, 3, 139, 5, 844, 1, 0, 0, []), (632, .if_icmp .eq 394, 3, 1026, 0, 0, 0, 0, 0, []), (635, .iconst 0, 1, 0, 0, 0, 0, 0, 0, []), (636, .ireturn, 1, 0, 0, 0, 1, 0, 0, []), (637, .aload_n 1, 1, 0, 0, 0, 0, 0, 0, []), (638, .invokevirtual 81, 3, 66, 4, 478, 1, 0, 0, []), (641, .aload_n 2, 1, 0, 0, 0, 0, 0, 0, []), (642, .invokevirtual 84, 3, 140, 5, 848, 1, 0, 0, []), (645, .if_icmp .eq 381, 3, 1026, 0, 0, 0, 0, 0, []), (648, .iconst 0, 1, 0, 0, 0, 0, 0, 0, []), (649, .ireturn, 1, 0, 0, 0, 1, 0, 0, []), (650, .aload_n 1, 1, 0, 0, 0, 0, 0, 0, []), (651, .aload_n 0, 1, 0, 0, 0, 0, 0, 0, []), (652, .iload_n 3, 1, 0, 0, 0, 0, 0, 0, []), (653, .iconst 1, 1, 0, 0, 0, 0, 1, 0, []), (654, .iadd, 1, 0, 0, 0, 0, 0, 0, []), (655, .iaload, 1, 0, 0, 0, 0, 0, 0, []), (656, .aload_n 0, 1, 0, 0, 0, 0, 0, 0, []), (657, .iload_n 3, 1, 0, 0, 0, 0, 0, 0, []), (658, .iconst 2, 1, 0, 0, 0, 0, 2, 0, []), (659, .iadd, 1, 0, 0, 0, 0, 0, 0, []), (660, .iaload, 1, 0, 0, 0, 0, 0, 0, []), (661, .aload_n 0, 1, 0, 0, 0, 0, 0, 0, []), (662, .iload_n 3, 1, 0, 0, 0, 0, 0, 0, []), (663, .iconst 3, 1, 0, 0, 0, 0, 3, 0, []), (664, .iadd, 1, 0, 0, 0, 0, 0, 0, []), (665, .iaload, 1, 0, 0, 0, 0, 0, 0, [])]
def am_t164_11 : List aI := [(666, .aload_n 0, 1, 0, 0, 0, 0, 0, 0, []), (667, .iload_n 3, 1, 0, 0, 0, 0, 0, 0, []), (668, .iconst 4, 1, 0, 0, 0, 0, 4, 0, []), (669, .iadd, 1, 0, 0, 0, 0, 0, 0, []), (670, .iaload, 1, 0, 0, 0, 0, 0, 0, []), (671, .aload_n 0, 1, 0, 0, 0, 0, 0, 0, []), (672, .iload_n 3, 1, 0, 0, 0, 0, 0, 0, []), (673, .iconst 5, 1, 0, 0, 0, 0, 5, 0, []), (674, .iadd, 1, 0, 0, 0, 0, 0, 0, []), (675, .iaload, 1, 0, 0, 0, 0, 0, 0, []), (676, .invokevirtual 85, 3, 67, 4, 482, 1, 0, 0, []), (679, .aload_n 2, 1, 0, 0, 0, 0, 0, 0, []), (680, .aload_n 0, 1, 0, 0, 0, 0, 0, 0, []), (681, .iload_n 3, 1, 0, 0, 0, 0, 0, 0, []), (682, .iconst 1, 1, 0, 0, 0, 0, 1, 0, []), (683, .iadd, 1, 0, 0, 0, 0, 0, 0, []), (684, .iaload, 1, 0, 0, 0, 0, 0, 0, []), (685, .aload_n 0, 1, 0, 0, 0, 0, 0, 0, []), (686, .iload_n 3, 1, 0, 0, 0, 0, 0, 0, []), (687, .iconst 2, 1, 0, 0, 0, 0, 2, 0, []), (688, .iadd, 1, 0, 0, 0, 0, 0, 0, []), (689, .iaload, 1, 0, 0, 0, 0, 0, 0, []), (690, .aload_n 0, 1, 0, 0, 0, 0, 0, 0, []), (691, .iload_n 3, 1, 0, 0, 0, 0, 0, 0, []), (692, .iconst 3, 1, 0, 0, 0, 0, 3, 0, []), (693, .iadd, 1, 0, 0, 0, 0, 0, 0, []), (694, .iaload, 1, 0, 0, 0, 0, 0, 0, []), (695, .aload_n 0, 1, 0, 0, 0, 0, 0, 0, []), (696, .iload_n 3, 1, 0, 0, 0, 0, 0, 0, []), (697, .iconst 4, 1, 0, 0, 0, 0, 4, 0, []), (698, .iadd, 1, 0, 0, 0, 0, 0, 0, []), (699, .iaload, 1, 0, 0, 0, 0, 0, 0, []), (700, .aload_n 0, 1, 0, 0, 0, 0, 0, 0, []), (701, .iload_n 3, 1, 0, 0, 0, 0, 0, 0, []), (702, .iconst 5, 1, 0, 0, 0, 0, 5, 0, []), (703, .iadd, 1, 0, 0, 0, 0, 0, 0, []), (704, .iaload, 1, 0, 0, 0, 0, 0, 0, []), (705, .invokevirtual 88, 3, 141, 5, 852, 1, 0, 0, []), (708, .if_icmp .eq 318, 3, 1026, 0, 0, 0, 0, 0, []), (711, .iconst 0, 1, 0, 0, 0, 0, 0, 0, [])]
def am_t164_12 : List aI := [(712, .ireturn, 1, 0, 0, 0, 1, 0, 0, []), (713, .aload_n 1, 1, 0, 0, 0, 0, 0, 0, []), (714, .aload_n 0, 1, 0, 0, 0, 0, 0, 0, []), (715, .iload_n 3, 1, 0, 0, 0, 0, 0, 0, []), (716, .iconst 1, 1, 0, 0, 0, 0, 1, 0, []), (717, .iadd, 1, 0, 0, 0, 0, 0, 0, []), (718, .iaload, 1, 0, 0, 0, 0, 0, 0, []), (719, .aload_n 0, 1, 0, 0, 0, 0, 0, 0, []), (720, .iload_n 3, 1, 0, 0, 0, 0, 0, 0, []), (721, .iconst 2, 1, 0, 0, 0, 0, 2, 0, []), (722, .iadd, 1, 0, 0, 0, 0, 0, 0, []), (723, .iaload, 1, 0, 0, 0, 0, 0, 0, []), (724, .aload_n 0, 1, 0, 0, 0, 0, 0, 0, []), (725, .iload_n 3, 1, 0, 0, 0, 0, 0, 0, []), (726, .iconst 3, 1, 0, 0, 0, 0, 3, 0, []), (727, .iadd, 1, 0, 0, 0, 0, 0, 0, []), (728, .iaload, 1, 0, 0, 0, 0, 0, 0, []), (729, .invokevirtual 89, 3, 68, 4, 487, 1, 0, 0, []), (732, .aload_n 2, 1, 0, 0, 0, 0, 0, 0, []), (733, .aload_n 0, 1, 0, 0, 0, 0, 0, 0, []), (734, .iload_n 3, 1, 0, 0, 0, 0, 0, 0, []), (735, .iconst 1, 1, 0, 0, 0, 0, 1, 0, []), (736, .iadd, 1, 0, 0, 0, 0, 0, 0, []), (737, .iaload, 1, 0, 0, 0, 0, 0, 0, []), (738, .aload_n 0, 1, 0, 0, 0, 0, 0, 0, []), (739, .iload_n 3, 1, 0, 0, 0, 0, 0, 0, []), (740, .iconst 2, 1, 0, 0, 0, 0, 2, 0, []), (741, .iadd, 1, 0, 0, 0, 0, 0, 0, []), (742, .iaload, 1, 0, 0, 0, 0, 0, 0, []), (743, .aload_n 0, 1, 0, 0, 0, 0, 0, 0, []), (744, .iload_n 3, 1, 0, 0, 0, 0, 0, 0, []), (745, .iconst 3, 1, 0, 0, 0, 0, 3, 0, []), (746, .iadd, 1, 0, 0, 0, 0, 0, 0, []), (747, .iaload, 1, 0, 0, 0, 0, 0, 0, []), (748, .invokevirtual 92, 3, 144, 5, 856, 1, 0, 0, []), (751, .if_icmp .eq 275, 3, 1026, 0, 0, 0, 0, 0, []), (754, .iconst 0, 1, 0, 0, 0, 0, 0, 0, []), (755, .ireturn, 1, 0, 0, 0, 1, 0, 0, []), (756, .aload_n 1, 1, 0, 0, 0, 0, 0, 0, []), (757, .aload_n 0, 1, 0, 0, 0, 0, 0, 0, [])]
def am_t164_13 : List aI := [(758, .iload_n 3, 1, 0, 0, 0, 0, 0, 0, []), (759, .iconst 1, 1, 0, 0, 0, 0, 1, 0, []), (760, .iadd, 1, 0, 0, 0, 0, 0, 0, []), (761, .iaload, 1, 0, 0, 0, 0, 0, 0, []), (762, .aload_n 0, 1, 0, 0, 0, 0, 0, 0, []), (763, .iload_n 3, 1, 0, 0, 0, 0, 0, 0, []), (764, .iconst 2, 1, 0, 0, 0, 0, 2, 0, []), (765, .iadd, 1, 0, 0, 0, 0, 0, 0, []), (766, .iaload, 1, 0, 0, 0, 0, 0, 0, []), (767, .aload_n 0, 1, 0, 0, 0, 0, 0, 0, []), (768, .iload_n 3, 1, 0, 0, 0, 0, 0, 0, []), (769, .iconst 3, 1, 0, 0, 0, 0, 3, 0, []), (770, .iadd, 1, 0, 0, 0, 0, 0, 0, []), (771, .iaload, 1, 0, 0, 0, 0, 0, 0, []), (772, .aload_n 0, 1, 0, 0, 0, 0, 0, 0, []), (773, .iload_n 3, 1, 0, 0, 0, 0, 0, 0, []), (774, .iconst 4, 1, 0, 0, 0, 0, 4, 0, []), (775, .iadd, 1, 0, 0, 0, 0, 0, 0, []), (776, .iaload, 1, 0, 0, 0, 0, 0, 0, []), (777, .invokevirtual 93, 3, 69, 4, 510, 1, 0, 0, []), (780, .aload_n 2, 1, 0, 0, 0, 0, 0, 0, []), (781, .aload_n 0, 1, 0, 0, 0, 0, 0, 0, []), (782, .iload_n 3, 1, 0, 0, 0, 0, 0, 0, []), (783, .iconst 1, 1, 0, 0, 0, 0, 1, 0, []), (784, .iadd, 1, 0, 0, 0, 0, 0, 0, []), (785, .iaload, 1, 0, 0, 0, 0, 0, 0, []), (786, .aload_n 0, 1, 0, 0, 0, 0, 0, 0, []), (787, .iload_n 3, 1, 0, 0, 0, 0, 0, 0, []), (788, .iconst 2, 1, 0, 0, 0, 0, 2, 0, []), (789, .iadd, 1, 0, 0, 0, 0, 0, 0, []), (790, .iaload, 1, 0, 0, 0, 0, 0, 0, []), (791, .aload_n 0, 1, 0, 0, 0, 0, 0, 0, []), (792, .iload_n 3, 1, 0, 0, 0, 0, 0, 0, []), (793, .iconst 3, 1, 0, 0, 0, 0, 3, 0, []), (794, .iadd, 1, 0, 0, 0, 0, 0, 0, []), (795, .iaload, 1, 0, 0, 0, 0, 0, 0, []), (796, .aload_n 0, 1, 0, 0, 0, 0, 0, 0, []), (797, .iload_n 3, 1, 0, 0, 0, 0, 0, 0, []), (798, .iconst 4, 1, 0, 0, 0, 0, 4, 0, []), (799, .iadd, 1, 0, 0, 0, 0, 0, 0, [])]
def am_t164_14 : List aI := [(800, .iaload, 1, 0, 0, 0, 0, 0, 0, []), (801, .invokevirtual 96, 3, 145, 5, 876, 1, 0, 0, []), (804, .if_icmp .eq 222, 3, 1026, 0, 0, 0, 0, 0, []), (807, .iconst 0, 1, 0, 0, 0, 0, 0, 0, []), (808, .ireturn, 1, 0, 0, 0, 1, 0, 0, []), (809, .aload_n 1, 1, 0, 0, 0, 0, 0, 0, []), (810, .aload_n 0, 1, 0, 0, 0, 0, 0, 0, []), (811, .iload_n 3, 1, 0, 0, 0, 0, 0, 0, []), (812, .iconst 1, 1, 0, 0, 0, 0, 1, 0, []), (813, .iadd, 1, 0, 0, 0, 0, 0, 0, []), (814, .iaload, 1, 0, 0, 0, 0, 0, 0, []), (815, .aload_n 0, 1, 0, 0, 0, 0, 0, 0, []), (816, .iload_n 3, 1, 0, 0, 0, 0, 0, 0, []), (817, .iconst 2, 1, 0, 0, 0, 0, 2, 0, []), (818, .iadd, 1, 0, 0, 0, 0, 0, 0, []), (819, .iaload, 1, 0, 0, 0, 0, 0, 0, []), (820, .aload_n 0, 1, 0, 0, 0, 0, 0, 0, []), (821, .iload_n 3, 1, 0, 0, 0, 0, 0, 0, []), (822, .iconst 3, 1, 0, 0, 0, 0, 3, 0, []), (823, .iadd, 1, 0, 0, 0, 0, 0, 0, []), (824, .iaload, 1, 0, 0, 0, 0, 0, 0, []), (825, .invokevirtual 97, 3, 70, 4, 516, 1, 0, 0, []), (828, .aload_n 2, 1, 0, 0, 0, 0, 0, 0, []), (829, .aload_n 0, 1, 0, 0, 0, 0, 0, 0, []), (830, .iload_n 3, 1, 0, 0, 0, 0, 0, 0, []), (831, .iconst 1, 1, 0, 0, 0, 0, 1, 0, []), (832, .iadd, 1, 0, 0, 0, 0, 0, 0, []), (833, .iaload, 1, 0, 0, 0, 0, 0, 0, []), (834, .aload_n 0, 1, 0, 0, 0, 0, 0, 0, []), (835, .iload_n 3, 1, 0, 0, 0, 0, 0, 0, []), (836, .iconst 2, 1, 0, 0, 0, 0, 2, 0, []), (837, .iadd, 1, 0, 0, 0, 0, 0, 0, []), (838, .iaload, 1, 0, 0, 0, 0, 0, 0, []), (839, .aload_n 0, 1, 0, 0, 0, 0, 0, 0, []), (840, .iload_n 3, 1, 0, 0, 0, 0, 0, 0, []), (841, .iconst 3, 1, 0, 0, 0, 0, 3, 0, []), (842, .iadd, 1, 0, 0, 0, 0, 0, 0, []), (843, .iaload, 1, 0, 0, 0, 0, 0, 0, []), (844, .invokevirtual 100, 3, 151, 5, 880, 1, 0, 0, []), (847, .if_icmp .eq 179, 3, 1026, 0, 0, 0, 0, 0, [])]
def am_t164_15 : List aI := [(850, .iconst 0, 1, 0, 0, 0, 0, 0, 0, []), (851, .ireturn, 1, 0, 0, 0, 1, 0, 0, []), (852, .aload_n 1, 1, 0, 0, 0, 0, 0, 0, []), (853, .aload_n 0, 1, 0, 0, 0, 0, 0, 0, []), (854, .iload_n 3, 1, 0, 0, 0, 0, 0, 0, []), (855, .iconst 1, 1, 0, 0, 0, 0, 1, 0, []), (856, .iadd, 1, 0, 0, 0, 0, 0, 0, []), (857, .iaload, 1, 0, 0, 0, 0, 0, 0, []), (858, .aload_n 0, 1, 0, 0, 0, 0, 0, 0, []), (859, .iload_n 3, 1, 0, 0, 0, 0, 0, 0, []), (860, .iconst 2, 1, 0, 0, 0, 0, 2, 0, []), (861, .iadd, 1, 0, 0, 0, 0, 0, 0, []), (862, .iaload, 1, 0, 0, 0, 0, 0, 0, []), (863, .aload_n 0, 1, 0, 0, 0, 0, 0, 0, []), (864, .iload_n 3, 1, 0, 0, 0, 0, 0, 0, []), (865, .iconst 3, 1, 0, 0, 0, 0, 3, 0, []), (866, .iadd, 1, 0, 0, 0, 0, 0, 0, []), (867, .iaload, 1, 0, 0, 0, 0, 0, 0, []), (868, .aload_n 0, 1, 0, 0, 0, 0, 0, 0, []), (869, .iload_n 3, 1, 0, 0, 0, 0, 0, 0, []), (870, .iconst 4, 1, 0, 0, 0, 0, 4, 0, []), (871, .iadd, 1, 0, 0, 0, 0, 0, 0, []), (872, .iaload, 1, 0, 0, 0, 0, 0, 0, []), (873, .ifCond .eq 7, 3, 880, 0, 0, 0, 0, 0, []), (876, .iconst 1, 1, 0, 0, 0, 0, 1, 0, []), (877, .goto 4, 3, 881, 0, 0, 0, 0, 0, []), (880, .iconst 0, 1, 0, 0, 0, 0, 0, 0, []), (881, .invokevirtual 101, 3, 71, 4, 549, 1, 0, 0, []), (884, .aload_n 2, 1, 0, 0, 0, 0, 0, 0, []), (885, .aload_n 0, 1, 0, 0, 0, 0, 0, 0, []), (886, .iload_n 3, 1, 0, 0, 0, 0, 0, 0, []), (887, .iconst 1, 1, 0, 0, 0, 0, 1, 0, []), (888, .iadd, 1, 0, 0, 0, 0, 0, 0, []), (889, .iaload, 1, 0, 0, 0, 0, 0, 0, []), (890, .aload_n 0, 1, 0, 0, 0, 0, 0, 0, []), (891, .iload_n 3, 1, 0, 0, 0, 0, 0, 0, []), (892, .iconst 2, 1, 0, 0, 0, 0, 2, 0, []), (893, .iadd, 1, 0, 0, 0, 0, 0, 0, []), (894, .iaload, 1, 0, 0, 0, 0, 0, 0, []), (895, .aload_n 0, 1, 0, 0, 0, 0, 0, 0, [])]
def am_t164_16 : List aI := [(896, .iload_n 3, 1, 0, 0, 0, 0, 0, 0, []), (897, .iconst 3, 1, 0, 0, 0, 0, 3, 0, []), (898, .iadd, 1, 0, 0, 0, 0, 0, 0, []), (899, .iaload, 1, 0, 0, 0, 0, 0, 0, []), (900, .aload_n 0, 1, 0, 0, 0, 0, 0, 0, []), (901, .iload_n 3, 1, 0, 0, 0, 0, 0, 0, []), (902, .iconst 4, 1, 0, 0, 0, 0, 4, 0, []), (903, .iadd, 1, 0, 0, 0, 0, 0, 0, []), (904, .iaload, 1, 0, 0, 0, 0, 0, 0, []), (905, .ifCond .eq 7, 3, 912, 0, 0, 0, 0, 0, []), (908, .iconst 1, 1, 0, 0, 0, 0, 1, 0, []), (909, .goto 4, 3, 913, 0, 0, 0, 0, 0, []), (912, .iconst 0, 1, 0, 0, 0, 0, 0, 0, []), (913, .invokevirtual 105, 3, 152, 5, 909, 1, 0, 0, []), (916, .if_icmp .eq 110, 3, 1026, 0, 0, 0, 0, 0, []), (919, .iconst 0, 1, 0, 0, 0, 0, 0, 0, []), (920, .ireturn, 1, 0, 0, 0, 1, 0, 0, []), (921, .aload_n 1, 1, 0, 0, 0, 0, 0, 0, []), (922, .aload_n 0, 1, 0, 0, 0, 0, 0, 0, []), (923, .iload_n 3, 1, 0, 0, 0, 0, 0, 0, []), (924, .iconst 1, 1, 0, 0, 0, 0, 1, 0, []), (925, .iadd, 1, 0, 0, 0, 0, 0, 0, []), (926, .iaload, 1, 0, 0, 0, 0, 0, 0, []), (927, .aload_n 0, 1, 0, 0, 0, 0, 0, 0, []), (928, .iload_n 3, 1, 0, 0, 0, 0, 0, 0, []), (929, .iconst 2, 1, 0, 0, 0, 0, 2, 0, []), (930, .iadd, 1, 0, 0, 0, 0, 0, 0, []), (931, .iaload, 1, 0, 0, 0, 0, 0, 0, []), (932, .invokevirtual 106, 3, 72, 4, 557, 1, 0, 0, []), (935, .aload_n 2, 1, 0, 0, 0, 0, 0, 0, []), (936, .aload_n 0, 1, 0, 0, 0, 0, 0, 0, []), (937, .iload_n 3, 1, 0, 0, 0, 0, 0, 0, []), (938, .iconst 1, 1, 0, 0, 0, 0, 1, 0, []), (939, .iadd, 1, 0, 0, 0, 0, 0, 0, []), (940, .iaload, 1, 0, 0, 0, 0, 0, 0, []), (941, .aload_n 0, 1, 0, 0, 0, 0, 0, 0, []), (942, .iload_n 3, 1, 0, 0, 0, 0, 0, 0, []), (943, .iconst 2, 1, 0, 0, 0, 0, 2, 0, []), (944, .iadd, 1, 0, 0, 0, 0, 0, 0, []), (945, .iaload, 1, 0, 0, 0, 0, 0, 0, [])]
def am_t164_17 : List aI := [(946, .invokevirtual 109, 3, 153, 5, 913, 1, 0, 0, []), (949, .if_icmp .eq 77, 3, 1026, 0, 0, 0, 0, 0, []), (952, .iconst 0, 1, 0, 0, 0, 0, 0, 0, []), (953, .ireturn, 1, 0, 0, 0, 1, 0, 0, []), (954, .aload_n 1, 1, 0, 0, 0, 0, 0, 0, []), (955, .aload_n 0, 1, 0, 0, 0, 0, 0, 0, []), (956, .iload_n 3, 1, 0, 0, 0, 0, 0, 0, []), (957, .iconst 1, 1, 0, 0, 0, 0, 1, 0, []), (958, .iadd, 1, 0, 0, 0, 0, 0, 0, []), (959, .iaload, 1, 0, 0, 0, 0, 0, 0, []), (960, .invokevirtual 110, 3, 73, 4, 575, 1, 0, 0, []), (963, .aload_n 2, 1, 0, 0, 0, 0, 0, 0, []), (964, .aload_n 0, 1, 0, 0, 0, 0, 0, 0, []), (965, .iload_n 3, 1, 0, 0, 0, 0, 0, 0, []), (966, .iconst 1, 1, 0, 0, 0, 0, 1, 0, []), (967, .iadd, 1, 0, 0, 0, 0, 0, 0, []), (968, .iaload, 1, 0, 0, 0, 0, 0, 0, []), (969, .invokevirtual 113, 3, 156, 5, 917, 1, 0, 0, []), (972, .if_icmp .eq 54, 3, 1026, 0, 0, 0, 0, 0, []), (975, .iconst 0, 1, 0, 0, 0, 0, 0, 0, []), (976, .ireturn, 1, 0, 0, 0, 1, 0, 0, []), (977, .aload_n 1, 1, 0, 0, 0, 0, 0, 0, []), (978, .aload_n 0, 1, 0, 0, 0, 0, 0, 0, []), (979, .iload_n 3, 1, 0, 0, 0, 0, 0, 0, []), (980, .iconst 1, 1, 0, 0, 0, 0, 1, 0, []), (981, .iadd, 1, 0, 0, 0, 0, 0, 0, []), (982, .iaload, 1, 0, 0, 0, 0, 0, 0, []), (983, .aload_n 0, 1, 0, 0, 0, 0, 0, 0, []), (984, .iload_n 3, 1, 0, 0, 0, 0, 0, 0, []), (985, .iconst 2, 1, 0, 0, 0, 0, 2, 0, []), (986, .iadd, 1, 0, 0, 0, 0, 0, 0, []), (987, .iaload, 1, 0, 0, 0, 0, 0, 0, []), (988, .ifCond .eq 7, 3, 995, 0, 0, 0, 0, 0, []), (991, .iconst 1, 1, 0, 0, 0, 0, 1, 0, []), (992, .goto 4, 3, 996, 0, 0, 0, 0, 0, []), (995, .iconst 0, 1, 0, 0, 0, 0, 0, 0, []), (996, .invokevirtual 114, 3, 74, 4, 600, 1, 0, 0, []), (999, .aload_n 2, 1, 0, 0, 0, 0, 0, 0, []), (1000, .aload_n 0, 1, 0, 0, 0, 0, 0, 0, []), (1001, .iload_n 3, 1, 0, 0, 0, 0, 0, 0, [])]
def am_t164_18 : List aI := [(1002, .iconst 1, 1, 0, 0, 0, 0, 1, 0, []), (1003, .iadd, 1, 0, 0, 0, 0, 0, 0, []), (1004, .iaload, 1, 0, 0, 0, 0, 0, 0, []), (1005, .aload_n 0, 1, 0, 0, 0, 0, 0, 0, []), (1006, .iload_n 3, 1, 0, 0, 0, 0, 0, 0, []), (1007, .iconst 2, 1, 0, 0, 0, 0, 2, 0, []), (1008, .iadd, 1, 0, 0, 0, 0, 0, 0, []), (1009, .iaload, 1, 0, 0, 0, 0, 0, 0, []), (1010, .ifCond .eq 7, 3, 1017, 0, 0, 0, 0, 0, []), (1013, .iconst 1, 1, 0, 0, 0, 0, 1, 0, []), (1014, .goto 4, 3, 1018, 0, 0, 0, 0, 0, []), (1017, .iconst 0, 1, 0, 0, 0, 0, 0, 0, []), (1018, .invokevirtual 118, 3, 157, 5, 928, 1, 0, 0, []), (1021, .if_icmp .eq 5, 3, 1026, 0, 0, 0, 0, 0, []), (1024, .iconst 0, 1, 0, 0, 0, 0, 0, 0, []), (1025, .ireturn, 1, 0, 0, 0, 1, 0, 0, []), (1026, .iinc 3 6, 3, 0, 0, 0, 0, 6, 0, []), (1029, .goto (-1011), 3, 18, 0, 0, 0, 0, 0, []), (1032, .iconst 1, 1, 0, 0, 0, 0, 1, 0, []), (1033, .ireturn, 1, 0, 0, 0, 1, 0, 0, [])]
def am_t164 : List aI := am_t164_0 ++ (am_t164_1 ++ (am_t164_2 ++ (am_t164_3 ++ (am_t164_4 ++ (am_t164_5 ++ (am_t164_6 ++ (am_t164_7 ++ (am_t164_8 ++ (am_t164_9 ++ (am_t164_10 ++ (am_t164_11 ++ (am_t164_12 ++ (am_t164_13 ++ (am_t164_14 ++ (am_t164_15 ++ (am_t164_16 ++ (am_t164_17 ++ (am_t164_18))))))))))))))))))
def am_mt : List aM := [(yX0_init, cX0_init, 2, none, 0, 41, 3960, 137, am_t0),
  (yX0_record, cX0_record, 2, none, 1, 0, 0, 242, am_t1),
  (yX0_takeBack, cX0_takeBack, 2, none, 1, 0, 0, 472, am_t2),
  (yX0_dropOldest, cX0_dropOldest, 3, none, 0, 0, 0, 246, am_t3),
  (yX1_init, cX1_init, 1, none, 0, 4, 81, 154, am_t4),
  (yX1_readPointings, cX1_readPointings, 2, some .int, 0, 0, 0, 310, am_t5),
  (yX1_readPointing, cX1_readPointing, 4, some .boolean, 0, 0, 0, 314, am_t6),
  (yX1_readTarget, cX1_readTarget, 2, some .int, 0, 0, 0, 318, am_t7),
  (yX1_readFace, cX1_readFace, 1, some .int, 0, 0, 0, 326, am_t8),
  (yX1_readAngle, cX1_readAngle, 4, some .int, 0, 0, 0, 334, am_t9),
  (yX1_readNumber, cX1_readNumber, 4, some .int, 1, 0, 0, 338, am_t10),
  (yX1_digit, cX1_digit, 1, some .int, 0, 0, 0, 322, am_t11),
  (yX1_skip, cX1_skip, 2, some .boolean, 1, 0, 0, 330, am_t12),
  (yX2_init, cX2_init, 1, none, 0, 5, 120, 189, am_t13),
  (yX2_reckon, cX2_reckon, 4, none, 2, 0, 0, 388, am_t14),
  (yX2_reckonRound, cX2_reckonRound, 12, none, 3, 0, 0, 392, am_t15),
  (yX2_reckonDirection, cX2_reckonDirection, 7, none, 1, 0, 0, 421, am_t16),
  (yX2_reckonLeft, cX2_reckonLeft, 4, none, 1, 0, 0, 429, am_t17),
  (yX2_isUsed, cX2_isUsed, 3, some .boolean, 2, 0, 0, 425, am_t18),
  (yX2_hasDirection, cX2_hasDirection, 2, some .boolean, 1, 0, 0, 527, am_t19),
  (yX2_roundsOf, cX2_roundsOf, 4, some .int, 1, 0, 0, 523, am_t20),
  (yX2_leftWithoutSign, cX2_leftWithoutSign, 3, some .int, 2, 0, 0, 437, am_t21),
  (yX2_mostLeft, cX2_mostLeft, 4, some .int, 1, 0, 0, 545, am_t22),
  (yX2_badTargets, cX2_badTargets, 5, some .int, 2, 0, 0, 509, am_t23),
  (yX2_worst, cX2_worst, 7, some .int, 1, 0, 0, 433, am_t24),
  (yX2_meanError, cX2_meanError, 5, some .int, 1, 0, 0, 498, am_t25),
  (yX2_angleBetween, cX2_angleBetween, 3, some .int, 2, 0, 0, 556, am_t26),
  (yX2_sumOfAngles, cX2_sumOfAngles, 6, some .int, 1, 0, 0, 564, am_t27),
  (yX2_neighbour, cX2_neighbour, 5, some .int, 1, 0, 0, 568, am_t28),
  (yX2_isBehind, cX2_isBehind, 3, some .boolean, 2, 0, 0, 573, am_t29),
  (yX3_init, cX3_init, 1, none, 0, 9, 978, 80, am_t30),
  (yX3_copyFrom, cX3_copyFrom, 2, none, 1, 0, 0, 250, am_t31),
  (yX3_hasSetUp, cX3_hasSetUp, 2, some .boolean, 1, 0, 0, 261, am_t32),
  (yX3_hasRound, cX3_hasRound, 3, some .boolean, 2, 0, 0, 270, am_t33),
  (yX3_isClosed, cX3_isClosed, 2, some .boolean, 1, 0, 0, 293, am_t34),
  (yX3_placeOf, cX3_placeOf, 4, some .int, 2, 0, 0, 297, am_t35),
  (yX3_canTake, cX3_canTake, 3, some .boolean, 2, 0, 0, 289, am_t36),
  (yX3_add, cX3_add, 5, none, 3, 0, 0, 302, am_t37),
  (yX3_remove, cX3_remove, 5, none, 2, 0, 0, 380, am_t38),
  (yX3_strikeBoth, cX3_strikeBoth, 7, none, 3, 0, 0, 444, am_t39),
  (yX3_driftOf, cX3_driftOf, 2, some .int, 1, 0, 0, 352, am_t40),
  (yX3_corrected, cX3_corrected, 4, some .int, 2, 0, 0, 406, am_t41),
  (yX3_whyNotUsed, cX3_whyNotUsed, 5, some .int, 3, 0, 0, 397, am_t42),
  (yX3_ownReason, cX3_ownReason, 9, some .int, 3, 0, 0, 401, am_t43),
  (yX3_struckIn, cX3_struckIn, 4, some .int, 1, 0, 0, 372, am_t44),
  (yX3_struckInRound, cX3_struckInRound, 3, some .int, 2, 0, 0, 367, am_t45),
  (yX3_allRounds, cX3_allRounds, 3, some .int, 0, 0, 0, 582, am_t46),
  (yX3_allPointings, cX3_allPointings, 3, some .int, 0, 0, 0, 586, am_t47),
  (yX3_allStruck, cX3_allStruck, 3, some .int, 0, 0, 0, 590, am_t48),
  (yX3_allClosings, cX3_allClosings, 3, some .int, 0, 0, 0, 599, am_t49),
  (yX4_init, cX4_init, 1, none, 0, 73, 6154, 72, am_t50),
  (yX4_setUp, cX4_setUp, 1, some .int, 0, 0, 0, 237, am_t51),
  (yX4_begin, cX4_begin, 2, some .int, 1, 0, 0, 257, am_t52),
  (yX4_point, cX4_point, 7, some .int, 5, 0, 0, 266, am_t53),
  (yX4_pointAll, cX4_pointAll, 5, some .int, 2, 0, 0, 306, am_t54),
  (yX4_close, cX4_close, 6, some .int, 4, 0, 0, 347, am_t55),
  (yX4_strike, cX4_strike, 8, some .int, 5, 0, 0, 361, am_t56),
  (yX4_wipe, cX4_wipe, 8, some .int, 3, 0, 0, 376, am_t57),
  (yX4_clean, cX4_clean, 4, some .int, 1, 0, 0, 384, am_t58),
  (yX4_setLimit, cX4_setLimit, 3, some .int, 1, 0, 0, 448, am_t59),
  (yX4_centre, cX4_centre, 6, some .int, 3, 0, 0, 452, am_t60),
  (yX4_setDistance, cX4_setDistance, 4, some .int, 2, 0, 0, 456, am_t61),
  (yX4_type, cX4_type, 2, some .int, 1, 0, 0, 460, am_t62),
  (yX4_clearText, cX4_clearText, 2, some .int, 0, 0, 0, 464, am_t63),
  (yX4_undo, cX4_undo, 1, some .int, 0, 0, 0, 468, am_t64),
  (yX4_keep, cX4_keep, 1, some .int, 0, 0, 0, 476, am_t65),
  (yX4_restore, cX4_restore, 1, some .int, 0, 0, 0, 481, am_t66),
  (yX4_pointing, cX4_pointing, 8, some .int, 5, 0, 0, 485, am_t67),
  (yX4_round, cX4_round, 4, some .int, 3, 0, 0, 490, am_t68),
  (yX4_reduced, cX4_reduced, 6, some .int, 4, 0, 0, 513, am_t69),
  (yX4_direction, cX4_direction, 4, some .int, 3, 0, 0, 519, am_t70),
  (yX4_angle, cX4_angle, 5, some .int, 4, 0, 0, 552, am_t71),
  (yX4_byAngles, cX4_byAngles, 3, some .int, 2, 0, 0, 560, am_t72),
  (yX4_count, cX4_count, 2, some .int, 1, 0, 0, 578, am_t73),
  (yX4_centring, cX4_centring, 3, some .int, 2, 0, 0, 603, am_t74),
  (yX4_isTarget, cX4_isTarget, 1, some .boolean, 1, 0, 0, 274, am_t75),
  (yX4_isFace, cX4_isFace, 1, some .boolean, 1, 0, 0, 277, am_t76),
  (yX4_isReading, cX4_isReading, 1, some .boolean, 1, 0, 0, 280, am_t77),
  (yX4_rowOf, cX4_rowOf, 3, some .int, 3, 0, 0, 285, am_t78),
  (yX4_nearZero, cX4_nearZero, 2, some .int, 1, 0, 0, 355, am_t79),
  (yX4_canTakeText, cX4_canTakeText, 7, some .boolean, 2, 0, 0, 343, am_t80),
  (yX4_toldDrift, cX4_toldDrift, 2, some .int, 1, 0, 0, 494, am_t81),
  (yX4_allBad, cX4_allBad, 4, some .int, 0, 0, 0, 594, am_t82),
  (yX4_correction, cX4_correction, 7, some .int, 2, 0, 0, 531, am_t83),
  (yX4_centredDirection, cX4_centredDirection, 4, some .int, 2, 0, 0, 541, am_t84),
  (yX5_init, cX5_init, 2, none, 0, 5, 7256, 608, am_t85),
  (yX5_in, cX5_in, 3, some .boolean, 3, 0, 0, 666, am_t86),
  (yX5_of, cX5_of, 2, some .int, 2, 0, 0, 655, am_t87),
  (yX5_faceAt, cX5_faceAt, 3, some .int, 3, 0, 0, 670, am_t88),
  (yX5_isSetUp, cX5_isSetUp, 2, some .boolean, 1, 0, 0, 663, am_t89),
  (yX5_isRound, cX5_isRound, 3, some .boolean, 2, 0, 0, 678, am_t90),
  (yX5_isTarget, cX5_isTarget, 1, some .boolean, 1, 0, 0, 681, am_t91),
  (yX5_know, cX5_know, 2, none, 0, 0, 0, 652, am_t92),
  (yX5_putAside, cX5_putAside, 2, none, 0, 0, 0, 835, am_t93),
  (yX5_putBack, cX5_putBack, 2, none, 0, 0, 0, 839, am_t94),
  (yX5_puts, cX5_puts, 4, some .int, 2, 0, 0, 798, am_t95),
  (yX5_divided, cX5_divided, 3, some .int, 2, 0, 0, 779, am_t96),
  (yX5_full, cX5_full, 2, some .int, 1, 0, 0, 714, am_t97),
  (yX5_near, cX5_near, 2, some .int, 1, 0, 0, 711, am_t98),
  (yX5_size, cX5_size, 1, some .int, 1, 0, 0, 790, am_t99),
  (yX5_placed, cX5_placed, 3, some .int, 3, 0, 0, 694, am_t100),
  (yX5_placeOf, cX5_placeOf, 4, some .int, 2, 0, 0, 691, am_t101),
  (yX5_drift, cX5_drift, 2, some .int, 1, 0, 0, 708, am_t102),
  (yX5_corrected, cX5_corrected, 4, some .int, 2, 0, 0, 776, am_t103),
  (yX5_struckIn, cX5_struckIn, 4, some .int, 1, 0, 0, 728, am_t104),
  (yX5_lacks, cX5_lacks, 8, some .int, 3, 0, 0, 760, am_t105),
  (yX5_why, cX5_why, 5, some .int, 3, 0, 0, 756, am_t106),
  (yX5_apart, cX5_apart, 6, some .int, 3, 0, 0, 783, am_t107),
  (yX5_mean, cX5_mean, 5, some .int, 3, 0, 0, 772, am_t108),
  (yX5_sight, cX5_sight, 4, some .int, 3, 0, 0, 871, am_t109),
  (yX5_reducedIn, cX5_reducedIn, 4, some .int, 3, 0, 0, 768, am_t110),
  (yX5_roundsOf, cX5_roundsOf, 5, some .int, 2, 0, 0, 887, am_t111),
  (yX5_directed, cX5_directed, 8, some .int, 2, 0, 0, 787, am_t112),
  (yX5_left, cX5_left, 4, some .int, 3, 0, 0, 764, am_t113),
  (yX5_isBad, cX5_isBad, 4, some .boolean, 3, 0, 0, 752, am_t114),
  (yX5_bad, cX5_bad, 5, some .int, 2, 0, 0, 875, am_t115),
  (yX5_setUp, cX5_setUp, 3, some .int, 0, 0, 0, 647, am_t116),
  (yX5_begin, cX5_begin, 4, some .int, 1, 0, 0, 659, am_t117),
  (yX5_canPoint, cX5_canPoint, 3, some .boolean, 2, 0, 0, 687, am_t118),
  (yX5_points, cX5_points, 5, some .int, 3, 0, 0, 700, am_t119),
  (yX5_point, cX5_point, 6, some .int, 5, 0, 0, 674, am_t120),
  (yX5_close, cX5_close, 6, some .int, 4, 0, 0, 704, am_t121),
  (yX5_struckOf, cX5_struckOf, 3, some .int, 2, 0, 0, 724, am_t122),
  (yX5_strike, cX5_strike, 8, some .int, 5, 0, 0, 720, am_t123),
  (yX5_isFirstOfClosed, cX5_isFirstOfClosed, 3, some .boolean, 2, 0, 0, 736, am_t124),
  (yX5_wipes, cX5_wipes, 4, some .int, 2, 0, 0, 740, am_t125),
  (yX5_wipe, cX5_wipe, 8, some .int, 3, 0, 0, 732, am_t126),
  (yX5_worst, cX5_worst, 8, some .int, 1, 0, 0, 748, am_t127),
  (yX5_clean, cX5_clean, 6, some .int, 1, 0, 0, 744, am_t128),
  (yX5_setLimit, cX5_setLimit, 2, some .int, 1, 0, 0, 794, am_t129),
  (yX5_centre, cX5_centre, 4, some .int, 3, 0, 0, 802, am_t130),
  (yX5_setDistance, cX5_setDistance, 3, some .int, 2, 0, 0, 806, am_t131),
  (yX5_type, cX5_type, 2, some .int, 1, 0, 0, 810, am_t132),
  (yX5_clearText, cX5_clearText, 2, some .int, 0, 0, 0, 814, am_t133),
  (yX5_sign, cX5_sign, 4, some .int, 2, 0, 0, 826, am_t134),
  (yX5_number, cX5_number, 3, some .int, 1, 0, 0, 830, am_t135),
  (yX5_go, cX5_go, 15, some .int, 3, 0, 0, 822, am_t136),
  (yX5_pointAll, cX5_pointAll, 4, some .int, 2, 0, 0, 818, am_t137),
  (yX5_undo, cX5_undo, 2, some .int, 0, 0, 0, 843, am_t138),
  (yX5_keep, cX5_keep, 2, some .int, 0, 0, 0, 847, am_t139),
  (yX5_restore, cX5_restore, 2, some .int, 0, 0, 0, 851, am_t140),
  (yX5_pointing, cX5_pointing, 7, some .int, 5, 0, 0, 855, am_t141),
  (yX5_used, cX5_used, 5, some .int, 2, 0, 0, 863, am_t142),
  (yX5_meanSight, cX5_meanSight, 6, some .int, 2, 0, 0, 867, am_t143),
  (yX5_round, cX5_round, 5, some .int, 3, 0, 0, 859, am_t144),
  (yX5_reduced, cX5_reduced, 6, some .int, 4, 0, 0, 879, am_t145),
  (yX5_sine, cX5_sine, 1, some .int, 1, 0, 0, 898, am_t146),
  (yX5_sineOf, cX5_sineOf, 3, some .int, 1, 0, 0, 895, am_t147),
  (yX5_correction, cX5_correction, 7, some .int, 3, 0, 0, 891, am_t148),
  (yX5_centred, cX5_centred, 4, some .int, 3, 0, 0, 904, am_t149),
  (yX5_mostLeft, cX5_mostLeft, 6, some .int, 2, 0, 0, 908, am_t150),
  (yX5_direction, cX5_direction, 5, some .int, 3, 0, 0, 883, am_t151),
  (yX5_angle, cX5_angle, 7, some .int, 4, 0, 0, 912, am_t152),
  (yX5_byAngles, cX5_byAngles, 3, some .int, 2, 0, 0, 916, am_t153),
  (yX5_sum, cX5_sum, 7, some .int, 1, 0, 0, 924, am_t154),
  (yX5_many, cX5_many, 3, some .int, 1, 0, 0, 927, am_t155),
  (yX5_count, cX5_count, 2, some .int, 1, 0, 0, 920, am_t156),
  (yX5_centring, cX5_centring, 3, some .int, 2, 0, 0, 931, am_t157),
  (yJ6_bitCount_0f7a4, cJ6_bitCount_0f7a4, 1, some .int, 1, 0, 0, 501, am_t158),
  (yJ9_floorDiv_7cf53, cJ9_floorDiv_7cf53, 3, some .int, 2, 0, 0, 410, am_t159),
  (yJ9_floorMod_7cf53, cJ9_floorMod_7cf53, 3, some .int, 2, 0, 0, 417, am_t160),
  (yJ9_abs_0f7a4, cJ9_abs_0f7a4, 1, some .int, 1, 0, 0, 440, am_t161),
  (yJ9_max_7cf53, cJ9_max_7cf53, 2, some .int, 2, 0, 0, 548, am_t162),
  (yJ7_fill_53178, cJ7_fill_53178, 4, none, 2, 0, 0, 84, am_t163),
  (yL_law, cL_law, 4, some .boolean, 1, 600000, 7302250, 0, am_t164)]
/-- the private members of nest mates that are called -/
def am_nest : List Cond := [.methodLinkNest "FaceRounds" 32 ⟨"FaceRounds$PointingText", "<init>", "()V"⟩ "FaceRounds", .methodLinkNest "FaceRounds" 39 ⟨"FaceRounds$Reckoning", "<init>", "()V"⟩ "FaceRounds", .methodLinkNest "FaceRounds$State" 74 ⟨"FaceRounds", "nearZero", "(I)I"⟩ "FaceRounds", .methodLinkNest "FaceRounds$State" 70 ⟨"FaceRounds", "rowOf", "(III)I"⟩ "FaceRounds", .methodLinkNest "FaceRounds$Reckoning" 43 ⟨"FaceRounds", "rowOf", "(III)I"⟩ "FaceRounds", .methodLinkNest "FaceRounds$Reckoning" 58 ⟨"FaceRounds", "nearZero", "(I)I"⟩ "FaceRounds"]
end
section
/-! the methods' parts by their number -/
def am_m0 : aM := (⟨"", "", ""⟩, ⟨#[]⟩, 0, none, 0, 0, 0, 0, [])
def am_m (k : Nat) : aM := am_mt.getD k am_m0
def mY (k : Nat) : MethodName := (am_m k).1
def mB (k : Nat) : ByteArray := (am_m k).2.1
def mL (k : Nat) : Nat := (am_m k).2.2.1
def mR (k : Nat) : Option FieldType := (am_m k).2.2.2.1
def mN (k : Nat) : Nat := (am_m k).2.2.2.2.1
def mC (k : Nat) : Nat := (am_m k).2.2.2.2.2.1
def mS (k : Nat) : Nat := (am_m k).2.2.2.2.2.2.1
def mP (k : Nat) : Nat := (am_m k).2.2.2.2.2.2.2.1
def mT (k : Nat) : List aI := (am_m k).2.2.2.2.2.2.2.2
/-- the tables' words that hold from any warmed state on -/
def am_tbl : List Cond := lw_tbl.filter goodWord
def am_mw (k : Nat) : List Cond := Cond.code (mY k) (mB k) (mL k) (mR k) :: am_tbl
/-! the cells that a world says -/
def am_cv (base b t0 : Nat) : Value → Value
  | .ref i => .ref (base + i)
  | .retAddr 0 => .ref b
  | .retAddr _ => .ref t0
  | v => v
/-- which fields of a class hold references -/
def am_fk : Nat → List Bool
  | 0 => [true, false]
  | 1 => [true, false, true, true, true, false, false]
  | 2 => [false, true, true, true, true, true]
  | 3 => [false, false, true, true, true, true, true, true, true, true, true]
  | 4 => [true, true, false, true, true, true]
  | _ => [true, true, true, false, true, false, true, false, false, false, false]
def am_fl (f : Nat → Bool → Value) : Nat → List Bool → List Value
  | _, [] => []
  | k, r :: t => f k r :: am_fl f (k + 1) t
def am_fv (base : Nat) (w : aW) (i k : Nat) : Bool → Value
  | true => va_rf ((w.2.2.2 i k).map (base + ·))
  | false => .int (w.2.2.1 i k)
def am_cell (base : Nat) (ty : Nat → ClassId) (w : aW) (i : Nat) : va_E := match w.2.1 i with
  | (0, ci) => .inr (ci, am_fl (am_fv base w i) 0 (am_fk ci))
  | (t + 1, n) => match Nat.beq t 3 with
    | true => .inl (ty 3, n, .inr (.inr (.inr (.inr (fun j => (w.2.2.2 i j).map (base + ·))))))
    | false => .inl (ty t, n, .inl (w.2.2.1 i))
def am_ws (base : Nat) (ty : Nat → ClassId) (w : aW) : va_W := (List.range w.1).map (fun i => (base + i, am_cell base ty w i))
def am_tys (ty : Nat → ClassId) : List (ClassId × FieldType) := [(ty 0, .char), (ty 1, .int), (ty 2, .boolean), (ty 3, .object "FaceRounds$State")]
abbrev am_A (base : Nat) : Nat → Prop := fun q => base ≤ q
def am_En (D : va_G) (ty : Nat → ClassId) (base t0 : Nat) (U : State) (H : Heap) : Prop := va_K D vwCl (am_tys ty) U ∧ va_Z "FaceRounds" "SINES" "[I" (.ref t0) (am_A base) U H ∧ va_T .int t0 24 (fun j => .int (am_sine j)) (am_A base) U H ∧ (∀ w ∈ am_nest, va_Nw w U) ∧ va_AO "FaceRounds$State" U
/-- a method's end: what it returns, and the world then -/
def am_Q (D : va_G) (ty : Nat → ClassId) (base b t0 n : Nat) (Post : Option Value → aW → Prop) : Array Value → State → Outcome → State → Prop := fun _ st oc t =>
  (∃ (r : Option Value) (w' : aW), oc = .returned (r.map (am_cv base b t0)) ∧ Post r w' ∧ w'.1 = n ∧ va_P D vwCl (am_ws base ty w') t.heap) ∧ va_F (am_A base) st t
def am_rm (d k : Nat) : Room := { frames := d, cells := mC k, slots := mS k, locals := 40 * d }
/-- a call of method k, at most d frames deep, from the world w: it returns, and Post holds -/
def am_Call (d k : Nat) (av : List Value) (w : aW) (Post : Option Value → aW → Prop) : Prop :=
  ∀ (l : Launch) (D : va_G) (ty : Nat → ClassId) (base b t0 : Nat), Met l (mY k) (am_mw k) (am_rm d k)
    (va_Pc (av.map (am_cv base b t0)) (fun U => am_En D ty base t0 U U.heap ∧ va_P D vwCl (am_ws base ty w) U.heap ∧ U.heap.size = base + w.1))
    (am_Q D ty base b t0 (w.1 + mC k) Post) (mC k) (mS k) (am_A base)
def am_Ci (d k : Nat) (av : List Value) (w : aW) (K : Int32 → aW → Prop) : Prop := am_Call d k av w (fun r w' => match r with
  | some (.int v) => K v w'
  | _ => False)
def am_Cv (d k : Nat) (av : List Value) (w : aW) (K : aW → Prop) : Prop := am_Call d k av w (fun r w' => match r with
  | none => K w'
  | _ => False)
def am_cf (f d k : Nat) (av : List Value) (w : aW) (K : Option Value → aW → Prop) : Prop := match d with
  | 0 => False
  | d + 1 => match f with
    | 0 => am_Cv d k av w (fun w' => K none w')
    | _ => am_Ci d k av w (fun v w' => K (some (.int v)) w')
def am_cpa (w : aW) (q0 q1 : Nat) (f : Nat → Nat → Nat → Prop) : Prop := match Nat.blt q0 w.1, Nat.blt q1 w.1, w.2.1 q0, w.2.1 q1 with
  | true, true, (t0 + 1, n0), (t1 + 1, n1) => (match Nat.beq t0 t1 with
    | true => f t0 n0 n1
    | false => False)
  | _, _, _, _ => False
def am_cpf (t : Nat) (w : aW) (q0 : Nat) (sp n : Int32) (K : Prop) : Prop := match t with
  | 1 => K
  | 2 => (∀ i : Nat, i < n.toNatClampNeg → w.2.2.1 q0 (sp.toNatClampNeg + i) = 0 ∨ w.2.2.1 q0 (sp.toNatClampNeg + i) = 1) ∧ K
  | _ => False
/-- one step: d the frames left, sx the script, cap the cells and slots that this method may make, K what follows, R what is returned -/
def am_stp (d : Nat) (sx : Option (Nat × (Nat → Int32))) (cap : Nat × Nat) (x : aI) (lc : aL) (st : List Value) (w : aW) (u : Nat × Nat) (K : aK) (R : Option Value → aW → Prop) : Prop :=
  match x with
  | (pc, ins, _, a, b, _, f, v, l, sw) =>
  match ins with
  | .iconst _ => K (pc + 1) lc (.int v :: st) w u
  | .bipush _ => K (pc + 2) lc (.int v :: st) w u
  | .sipush _ => K (pc + 3) lc (.int v :: st) w u
  | .ldc _ => K (pc + 2) lc (.int v :: st) w u
  | .ldc_w _ => K (pc + 3) lc (.int v :: st) w u
  | .ldc2_w _ => K (pc + 3) lc (.long l :: st) w u
  | .iload_n k => am_gi lc k.val fun y => K (pc + 1) lc (.int y :: st) w u
  | .iload k => am_gi lc k fun y => K (pc + 2) lc (.int y :: st) w u
  | .lload_n k => am_gl lc k.val fun y => K (pc + 1) lc (.long y :: st) w u
  | .lload k => am_gl lc k fun y => K (pc + 2) lc (.long y :: st) w u
  | .aload_n k => am_ga lc k.val fun y => K (pc + 1) lc (y :: st) w u
  | .aload k => am_ga lc k fun y => K (pc + 2) lc (y :: st) w u
  | .istore_n k => am_i st fun y r => am_sv lc k.val (.int y) fun lc' => K (pc + 1) lc' r w u
  | .istore k => am_i st fun y r => am_sv lc k (.int y) fun lc' => K (pc + 2) lc' r w u
  | .lstore_n k => am_l st fun y r => am_sl lc k.val y fun lc' => K (pc + 1) lc' r w u
  | .lstore k => am_l st fun y r => am_sl lc k y fun lc' => K (pc + 2) lc' r w u
  | .astore_n k => am_a st fun y r => am_sv lc k.val y fun lc' => K (pc + 1) lc' r w u
  | .astore k => am_a st fun y r => am_sv lc k y fun lc' => K (pc + 2) lc' r w u
  | .iinc k _ => am_gi lc k fun y => am_sv lc k (.int (y + v)) fun lc' => K (pc + 3) lc' st w u
  | .iadd => am_ii st fun y z r => K (pc + 1) lc (.int (y + z) :: r) w u
  | .isub => am_ii st fun y z r => K (pc + 1) lc (.int (y - z) :: r) w u
  | .imul => am_ii st fun y z r => K (pc + 1) lc (.int (y * z) :: r) w u
  | .iand => am_ii st fun y z r => K (pc + 1) lc (.int (y &&& z) :: r) w u
  | .ior => am_ii st fun y z r => K (pc + 1) lc (.int (y ||| z) :: r) w u
  | .ixor => am_ii st fun y z r => K (pc + 1) lc (.int (y ^^^ z) :: r) w u
  | .ishl => am_ii st fun y z r => K (pc + 1) lc (.int (y <<< (z &&& 31)) :: r) w u
  | .ishr => am_ii st fun y z r => K (pc + 1) lc (.int (y >>> (z &&& 31)) :: r) w u
  | .iushr => am_ii st fun y z r => K (pc + 1) lc (.int (y.toUInt32 >>> (z.toUInt32 &&& Int32.toUInt32 31)).toInt32 :: r) w u
  | .idiv => am_ii st fun y z r => ¬ z = 0 ∧ K (pc + 1) lc (.int (y / z) :: r) w u
  | .irem => am_ii st fun y z r => ¬ z = 0 ∧ K (pc + 1) lc (.int (y - y / z * z) :: r) w u
  | .ineg => am_i st fun y r => K (pc + 1) lc (.int (-y) :: r) w u
  | .lmul => am_ll st fun y z r => K (pc + 1) lc (.long (y * z) :: r) w u
  | .ldiv => am_ll st fun y z r => ¬ z = 0 ∧ K (pc + 1) lc (.long (y / z) :: r) w u
  | .i2l => am_i st fun y r => K (pc + 1) lc (.long y.toInt64 :: r) w u
  | .l2i => am_l st fun y r => K (pc + 1) lc (.int y.toInt32 :: r) w u
  | .i2c => am_i st fun y r => K (pc + 1) lc (.int (y.toUInt32 % 65536).toInt32 :: r) w u
  | .dup => (match st with
    | y :: r => (match am_cat1 y with
      | true => K (pc + 1) lc (y :: y :: r) w u
      | false => False)
    | _ => False)
  | .dup2 => (match st with
    | y :: z :: r => (match am_cat1 y && am_cat1 z with
      | true => K (pc + 1) lc (y :: z :: y :: z :: r) w u
      | false => False)
    | _ => False)
  | .ifCond cc _ => am_i st fun y r => am_c2 cc y 0 (K a lc r w u) (K (pc + 3) lc r w u)
  | .if_icmp cc _ => am_ii st fun y z r => am_c2 cc y z (K a lc r w u) (K (pc + 3) lc r w u)
  | .goto _ => K a lc st w u
  | .tableswitch _ _ _ _ => am_i st fun y r => am_sw y (fun t => K t lc r w u) (K a lc r w u) sw
  | .lookupswitch _ _ => am_i st fun y r => am_sw y (fun t => K t lc r w u) (K a lc r w u) sw
  | .getfield _ => (match st with
    | .ref i :: r => am_ob w i a (match f with
      | 1 => (match w.2.2.2 i b with
        | some j => K (pc + 3) lc (.ref j :: r) w u
        | none => False)
      | _ => K (pc + 3) lc (.int (w.2.2.1 i b) :: r) w u)
    | _ => False)
  | .putfield _ => (match f, st with
    | 0, .int y :: .ref i :: r => am_ob w i a (K (pc + 3) lc r (am_wC w (am_u2 w.2.2.1 i b y)) u)
    | 1, .ref j :: .ref i :: r => am_ob w i a (K (pc + 3) lc r (am_wF w (am_uF w.2.2.2 i b (some j))) u)
    | 2, .int y :: .ref i :: r => am_ob w i a ((y = 0 ∨ y = 1) ∧ K (pc + 3) lc r (am_wC w (am_u2 w.2.2.1 i b y)) u)
    | _, _ => False)
  | .getstatic _ => K (pc + 3) lc (.retAddr 1 :: st) w u
  | .arraylength => (match st with
    | .ref i :: r => am_alen w i fun n => K (pc + 1) lc (.int (Int32.ofNat n) :: r) w u
    | .retAddr 0 :: r => (match sx with
      | some (L, _) => K (pc + 1) lc (.int (Int32.ofNat L) :: r) w u
      | none => False)
    | _ => False)
  | .iaload => (match st with
    | .int i :: .ref q :: r => am_ar w q 1 fun n => vp_in i n ∧ K (pc + 1) lc (.int (w.2.2.1 q i.toNatClampNeg) :: r) w u
    | .int i :: .retAddr 0 :: r => (match sx with
      | some (L, xs) => vp_in i L ∧ K (pc + 1) lc (.int (xs i.toNatClampNeg) :: r) w u
      | none => False)
    | .int i :: .retAddr 1 :: r => vp_in i 24 ∧ K (pc + 1) lc (.int (am_sine i.toNatClampNeg) :: r) w u
    | _ => False)
  | .caload => (match st with
    | .int i :: .ref q :: r => am_ar w q 0 fun n => vp_in i n ∧ K (pc + 1) lc (.int (w.2.2.1 q i.toNatClampNeg) :: r) w u
    | _ => False)
  | .baload => (match st with
    | .int i :: .ref q :: r => am_ar w q 2 fun n => vp_in i n ∧ K (pc + 1) lc (.int (w.2.2.1 q i.toNatClampNeg) :: r) w u
    | _ => False)
  | .aaload => (match st with
    | .int i :: .ref q :: r => am_ar w q 3 fun n => vp_in i n ∧ ∃ j, w.2.2.2 q i.toNatClampNeg = some j ∧ K (pc + 1) lc (.ref j :: r) w u
    | _ => False)
  | .iastore => (match st with
    | .int y :: .int i :: .ref q :: r => am_ar w q 1 fun n => vp_in i n ∧ K (pc + 1) lc r (am_wC w (am_u2 w.2.2.1 q i.toNatClampNeg y)) u
    | _ => False)
  | .castore => (match st with
    | .int y :: .int i :: .ref q :: r => am_ar w q 0 fun n => vp_in i n ∧ K (pc + 1) lc r (am_wC w (am_u2 w.2.2.1 q i.toNatClampNeg (vp_nar .char y))) u
    | _ => False)
  | .bastore => (match st with
    | .int y :: .int i :: .ref q :: r => am_ar w q 2 fun n => vp_in i n ∧ K (pc + 1) lc r (am_wC w (am_u2 w.2.2.1 q i.toNatClampNeg (vp_nar .boolean y))) u
    | _ => False)
  | .aastore => (match st with
    | .ref j :: .int i :: .ref q :: r => am_ar w q 3 fun n => vp_in i n ∧ am_ob w j 3 (K (pc + 1) lc r (am_wF w (am_uF w.2.2.2 q i.toNatClampNeg (some j))) u)
    | _ => False)
  | .new _ => am_room (u.1 + 1, u.2 + f) cap (K (pc + 3) lc (.ref w.1 :: st) (am_wN w (0, a)) (u.1 + 1, u.2 + f))
  | .newarray _ => am_i st fun y r => y = v ∧ am_room (u.1 + 1, u.2 + a) cap (K (pc + 2) lc (.ref w.1 :: r) (am_wN w (b + 1, a)) (u.1 + 1, u.2 + a))
  | .anewarray _ => am_i st fun y r => y = v ∧ am_room (u.1 + 1, u.2 + a) cap (K (pc + 3) lc (.ref w.1 :: r) (am_wN w (4, a)) (u.1 + 1, u.2 + a))
  | .invokevirtual _ => am_pop (mN a) st [] fun av r => (match r with
    | .ref i :: r => am_ob w i b (am_cs8 r (am_cf f d a (.ref i :: av) w fun y w' => K (pc + 3) lc (y.toList ++ r) w' u))
    | _ => False)
  | .invokestatic _ => (match b with
    | 2 => (match d, st with
      | _ + 1, .int n :: .int dp :: .ref q1 :: .int sp :: .ref q0 :: r => am_cpa w q0 q1 fun t n0 n1 => am_cs8 r (¬ sp < 0 ∧ ¬ dp < 0 ∧ ¬ n < 0 ∧ sp.toNatClampNeg + n.toNatClampNeg ≤ n0 ∧ dp.toNatClampNeg + n.toNatClampNeg ≤ n1 ∧ am_cpf t w q0 sp n (K (pc + 3) lc r (am_wC w (am_uR w.2.2.1 q1 (va_cpy (w.2.2.1 q0) (w.2.2.1 q1) sp.toNatClampNeg dp.toNatClampNeg n.toNatClampNeg))) u))
      | _, _ => False)
    | 3 => (match d, st with
      | _ + 1, .int z :: .int y :: r => am_cs8 r (K (pc + 3) lc (.int (if y < z then z else y) :: r) w u)
      | _, _ => False)
    | 4 => (match d, st with
      | _ + 1, .int y :: r => am_cs8 r (K (pc + 3) lc (.int (if 0 ≤ y then y else 0 - y) :: r) w u)
      | _, _ => False)
    | _ => am_pop (mN a) st [] fun av r => am_cs8 r (am_cf f d a av w fun y w' => K (pc + 3) lc (y.toList ++ r) w' u))
  | .invokespecial _ => (match b with
    | 2 => (match d, st with
      | _ + 1, .ref _ :: r => am_cs8 r (K (pc + 3) lc r w u)
      | _, _ => False)
    | _ => am_pop (mN a) st [] fun av r => (match r with
      | .ref i :: r => am_cs8 r (am_room (u.1 + mC a, u.2 + mS a) cap (am_cf 0 d a (.ref i :: av) w fun y w' => K (pc + 3) lc (y.toList ++ r) w' (u.1 + mC a, u.2 + mS a)))
      | _ => False))
  | .ireturn => (match st with
    | [.int y] => (match f with
      | 0 => R (some (.int y)) w
      | _ => (y = 0 ∨ y = 1) ∧ R (some (.int y)) w)
    | _ => False)
  | .return_ => (match st with
    | [] => R none w
    | _ => False)
  | _ => False

def am_al (f : Value → Value) : Nat → aL → List (Nat × Value)
  | _, [] => []
  | i, none :: t => am_al f (i + 1) t
  | i, some v :: t => (i, f v) :: am_al f (i + 1) t
/-- the frame of a running method k, in the depth d -/
def am_Fx (d k : Nat) (p : Program) (R : Room) (s : State) (m : MethodId) (args : Array Value) (meth : Method) (c : Code) : Prop :=
  p.tables.exec = Jvm.exec ∧ c.code = mB k ∧ c.maxLocals = mL k ∧ s.vm.findClass (mY k).cls = some m.cls ∧ (∀ w ∈ am_tbl, w.before args s = true) ∧ (d ≤ R.frames ∧ 40 * d ≤ R.locals ∧ R.cells = mC k ∧ R.slots = mS k) ∧ ((mY k).name = "<init>" → meth.name = "<init>")
def am_Sx (sx : Option (Nat × (Nat → Int32))) (base b : Nat) (s : State) : Prop := match sx with
  | some (L, xs) => va_X b L xs s s.heap ∧ b < s.heap.size ∧ b < base
  | none => True
/-- what a frame's return needs: the instruction, and that the value is of the returned type -/
def am_Ri (k pc : Nat) (r : Option Value) : Prop := match r with
  | none => decode (mB k) pc = .ok (.return_, 1) ∧ mR k = none
  | some (.int x) => decode (mB k) pc = .ok (.ireturn, 1) ∧ ∃ ty, mR k = some ty ∧ narrow ty (.int x) = .int x
  | _ => False
/-- method k, at pc, with these locals and this stack, in the world w: it comes to its end, and Post holds -/
def am_At (d k : Nat) (sx : Option (Nat × (Nat → Int32))) (Post : Option Value → aW → Prop) (pc : Nat) (lc : aL) (st : List Value) (w : aW) (u : Nat × Nat) : Prop :=
  ∀ (p : Program) (l : Launch) (e : Env) (R : Room) (s : State) (m : MethodId) (args : Array Value) (below : List Frame) (meth : Method) (c : Code) (D : va_G) (ty : Nat → ClassId) (base b t0 : Nat) (Q : State → Prop),
    am_Fx d k p R s m args meth c → am_En D ty base t0 s s.heap → am_Sx sx base b s → base ≤ s.heap.size →
    (∀ (r : Option Value) (w' : aW) (u' : Nat × Nat) (H : Heap) (locs : List Loc) (ls : Array Slot) (pc' : Nat), Post r w' → s.heap.size + u'.1 = base + w'.1 → u'.1 ≤ mC k → u'.2 ≤ mS k → va_P D vwCl (am_ws base ty w') H → va_S (am_A base) s.heap H locs → am_Ri k pc' r →
      W p l e R s m args below meth c H locs u'.1 u'.2 Q (F0 m pc' ls (r.map (am_cv base b t0)).toList)) →
    ∀ (H : Heap) (locs : List Loc) (ls : Array Slot), s.heap.size + u.1 = base + w.1 → u.1 ≤ mC k → u.2 ≤ mS k → va_P D vwCl (am_ws base ty w) H → va_S (am_A base) s.heap H locs → lc.length = mL k → lv_has ls (mL k) (am_al (am_cv base b t0) 0 lc) →
      W p l e R s m args below meth c H locs u.1 u.2 Q (F0 m pc ls (st.map (am_cv base b t0)))
end
section
/-! what is checked of the rows, by program -/
def am_wd (c : Nat) (w : Cond) : Bool := decide (lw_tbl[c]? = some w) && goodWord w
theorem am_wd_ok {c : Nat} {w : Cond} (h : am_wd c w = true) : w ∈ am_tbl := by
  simp only [am_wd, Bool.and_eq_true, decide_eq_true_eq] at h
  exact List.mem_filter.mpr ⟨List.mem_of_getElem? h.1, h.2⟩
def am_in (w : Cond) : Bool := decide (w ∈ lw_tbl) && goodWord w
theorem am_in_ok {w : Cond} (h : am_in w = true) : w ∈ am_tbl := by
  simp only [am_in, Bool.and_eq_true, decide_eq_true_eq] at h
  exact List.mem_filter.mpr h
theorem am_tbl_good : ∀ w ∈ am_tbl, (w.onTables && w.keeps) = true ∨ ∃ ty, w = .arrayClass ty := fun w h => good_of_word (List.mem_filter.mp h).2
/-- a method that may be called; q: its number, the places of .initialized, .instanceMethod or .static, .selects -/
def am_okC (q : Nat × Nat × Nat × Nat) : Bool := am_wd q.2.1 (.initialized (mY q.1).cls) && decide ((mY q.1).cls ≠ "java/lang/invoke/MethodHandle") && decide ((mY q.1).cls ≠ "java/lang/invoke/VarHandle") &&
  decide ((parseMethodDescriptor (mY q.1).desc).map (fun d => d.parameters.length) = some (mN q.1)) && Nat.ble (mL q.1) 21 && Nat.blt q.1 164 && plainFor (mY q.1)
def am_okV (q : Nat × Nat × Nat × Nat) : Bool := am_okC q && am_wd q.2.2.1 (.instanceMethod (mY q.1)) && am_wd q.2.2.2 (.selects (mY q.1).cls (mY q.1) (mY q.1)) && Nat.beq (mC q.1) 0 && Nat.beq (mS q.1) 0
def am_okS (q : Nat × Nat × Nat × Nat) : Bool := am_okC q && am_wd q.2.2.1 (.static (mY q.1)) && Nat.beq (mC q.1) 0 && Nat.beq (mS q.1) 0
def am_okI (q : Nat × Nat × Nat × Nat) : Bool := am_okC q && am_wd q.2.2.1 (.instanceMethod (mY q.1)) && decide ((mY q.1).name = "<init>") && decide (mR q.1 = none)
set_option maxRecDepth 100000 in
theorem am_codes : (List.range 164).map (fun a => lw_tbl[mP a]?) = (List.range 164).map (fun a => some (Cond.code (mY a) (mB a) (mL a) (mR a))) := rfl
def am_Vs : List (Nat × Nat × Nat × Nat) := [(1, 61, 240, 241), (2, 61, 470, 471), (3, 61, 245, 0), (5, 62, 308, 309), (6, 62, 313, 1), (7, 62, 317, 2), (8, 62, 325, 4), (9, 62, 333, 6), (10, 62, 337, 7), (11, 62, 321, 3), (12, 62, 329, 5), (14, 63, 386, 387), (15, 63, 391, 10), (16, 63, 420, 12), (17, 63, 428, 13), (18, 63, 423, 424), (19, 63, 525, 526), (20, 63, 521, 522), (21, 63, 436, 14), (22, 63, 543, 544), (23, 63, 507, 508), (24, 63, 431, 432), (25, 63, 496, 497), (26, 63, 554, 555), (27, 63, 562, 563), (28, 63, 567, 18), (29, 63, 572, 19), (31, 59, 248, 249), (32, 59, 259, 260), (33, 59, 268, 269), (34, 59, 291, 292), (35, 59, 295, 296), (36, 59, 287, 288), (37, 59, 300, 301), (38, 59, 378, 379), (39, 59, 442, 443), (40, 59, 350, 351), (41, 59, 404, 405), (42, 59, 395, 396), (43, 59, 400, 11), (44, 59, 371, 9), (45, 59, 365, 366), (46, 59, 580, 581), (47, 59, 584, 585), (48, 59, 588, 589), (49, 59, 597, 598), (51, 58, 235, 236), (52, 58, 255, 256), (53, 58, 264, 265), (54, 58, 304, 305), (55, 58, 345, 346), (56, 58, 359, 360), (57, 58, 374, 375), (58, 58, 382, 383), (59, 58, 446, 447), (60, 58, 450, 451), (61, 58, 454, 455), (62, 58, 458, 459), (63, 58, 462, 463), (64, 58, 466, 467), (65, 58, 474, 475), (66, 58, 479, 480), (67, 58, 483, 484), (68, 58, 488, 489), (69, 58, 511, 512), (70, 58, 517, 518), (71, 58, 550, 551), (72, 58, 558, 559), (73, 58, 576, 577), (74, 58, 601, 602), (80, 58, 342, 8), (81, 58, 493, 15), (82, 58, 593, 20), (83, 58, 530, 16), (84, 58, 540, 17), (89, 64, 662, 22), (90, 64, 677, 23), (92, 64, 651, 21), (93, 64, 834, 46), (94, 64, 838, 47), (95, 64, 797, 42), (101, 64, 690, 25), (102, 64, 707, 27), (103, 64, 775, 39), (104, 64, 727, 29), (105, 64, 759, 35), (106, 64, 755, 34), (107, 64, 782, 40), (108, 64, 771, 38), (109, 64, 870, 50), (110, 64, 767, 37), (111, 64, 886, 52), (112, 64, 786, 41), (113, 64, 763, 36), (114, 64, 751, 33), (115, 64, 874, 51), (116, 64, 645, 646), (117, 64, 657, 658), (118, 64, 686, 24), (119, 64, 699, 26), (120, 64, 672, 673), (121, 64, 702, 703), (122, 64, 723, 28), (123, 64, 718, 719), (124, 64, 735, 30), (125, 64, 739, 31), (126, 64, 730, 731), (127, 64, 747, 32), (128, 64, 742, 743), (129, 64, 792, 793), (130, 64, 800, 801), (131, 64, 804, 805), (132, 64, 808, 809), (133, 64, 812, 813), (134, 64, 825, 44), (135, 64, 829, 45), (136, 64, 821, 43), (137, 64, 816, 817), (138, 64, 841, 842), (139, 64, 845, 846), (140, 64, 849, 850), (141, 64, 853, 854), (142, 64, 862, 48), (143, 64, 866, 49), (144, 64, 857, 858), (145, 64, 877, 878), (148, 64, 890, 53), (149, 64, 903, 54), (150, 64, 907, 55), (151, 64, 881, 882), (152, 64, 910, 911), (153, 64, 914, 915), (154, 64, 923, 56), (156, 64, 918, 919), (157, 64, 929, 930)]
def am_Ss : List (Nat × Nat × Nat × Nat) := [(75, 58, 273, 0), (76, 58, 276, 0), (77, 58, 279, 0), (78, 58, 284, 0), (79, 58, 354, 0), (86, 64, 665, 0), (87, 64, 654, 0), (88, 64, 669, 0), (91, 64, 680, 0), (96, 64, 778, 0), (97, 64, 713, 0), (98, 64, 710, 0), (99, 64, 789, 0), (100, 64, 693, 0), (146, 64, 897, 0), (147, 64, 894, 0), (155, 64, 926, 0), (158, 67, 500, 0), (159, 66, 409, 0), (160, 66, 416, 0), (163, 60, 83, 0)]
def am_Is : List (Nat × Nat × Nat × Nat) := [(0, 61, 136, 0), (4, 62, 153, 0), (13, 63, 188, 0), (30, 59, 79, 0), (50, 58, 71, 0), (85, 64, 607, 0)]
set_option maxRecDepth 100000 in
theorem am_Vs_ok : am_Vs.all am_okV = true := by decide +kernel
set_option maxRecDepth 100000 in
theorem am_Ss_ok : am_Ss.all am_okS = true := by decide +kernel
set_option maxRecDepth 100000 in
theorem am_Is_ok : am_Is.all am_okI = true := by decide +kernel
def am_has (l : List (Nat × Nat × Nat × Nat)) (a : Nat) : Bool := l.any (fun q => Nat.beq q.1 a)
def am_len : Instr → Nat → Nat
  | .bipush _, _ => 2 | .sipush _, _ => 3 | .ldc _, _ => 2 | .ldc_w _, _ => 3 | .ldc2_w _, _ => 3
  | .iload _, _ => 2 | .lload _, _ => 2 | .aload _, _ => 2 | .istore _, _ => 2 | .lstore _, _ => 2 | .astore _, _ => 2 | .iinc _ _, _ => 3
  | .ifCond _ _, _ => 3 | .if_icmp _ _, _ => 3 | .goto _, _ => 3 | .tableswitch _ _ _ _, n => n | .lookupswitch _ _, n => n
  | .getfield _, _ => 3 | .putfield _, _ => 3 | .getstatic _, _ => 3 | .new _, _ => 3 | .newarray _, _ => 2 | .anewarray _, _ => 3
  | .invokevirtual _, _ => 3 | .invokestatic _, _ => 3 | .invokespecial _, _ => 3
  | _, _ => 1
def am_tsw (pc : Nat) (lo : Int) (offs : Array Int) : Nat → List (Int32 × Nat) → Bool
  | _, [] => true
  | j, q :: t => decide (q.1.toInt = lo + j) && (match offs[j]? with
    | some o => decide ((pc : Int) + o = (q.2 : Int))
    | none => false) && am_tsw pc lo offs (j + 1) t
def am_aty (t : ArrayType) : Nat := match t with
  | .char => 0
  | .int => 1
  | .boolean => 2
  | _ => 9
def am_num (v : Int32) (a z : Nat) : Bool := decide (¬ v < 0) && decide (v.toNatClampNeg = a) && Nat.ble (a * z) 536870912
def am_cls (a : Nat) : vw_C := vwCl.getD a ("", fun _ => ("", "", "", false), 0)
def am_fin (k : Nat) (q : String × String × String × Bool) : Bool := !q.2.2.2 || (decide ((mY k).name = "<init>") && decide (q.1 = (mY k).cls))
def am_fty (f : Nat) (desc : String) : Bool := match f, parseFieldDescriptor desc with
  | 0, some .int => true
  | 1, some (.object _) => true
  | 1, some (.array _) => true
  | 2, some .boolean => true
  | _, _ => false
def am_ckf (k i a b c f : Nat) : Bool := Nat.blt a 6 && Nat.blt b (am_cls a).2.2 && am_wd c (.fieldLink (mY k).cls i ((am_cls a).2.1 b).1 ((am_cls a).2.1 b).2.1 ((am_cls a).2.1 b).2.2.1) && am_fty f ((am_cls a).2.1 b).2.2.1 && decide ((am_fk a)[b]? = some (Nat.beq f 1))
set_option maxRecDepth 100000 in
theorem am_mx : lw_tbl[548]? = some (Cond.code Lib.Math.max.name Lib.Math.max.code 2 (some .int)) := rfl
set_option maxRecDepth 100000 in
theorem am_ma : lw_tbl[440]? = some (Cond.code Lib.Math.abs.name Lib.Math.abs.code 1 (some .int)) := rfl
theorem am_mm : (am_wd 547 (.static Lib.Math.max.name) && am_wd 439 (.static Lib.Math.abs.name) && am_wd 66 (.initialized "java/lang/Math")) = true := by decide +kernel
def am_isC : Bool := am_wd 253 (.native arraycopyName) && am_wd 252 (.static arraycopyName) && am_wd 65 (.initialized "java/lang/System")
set_option maxRecDepth 100000 in
theorem am_oc : lw_tbl[75]? = some (Cond.code objectInit ⟨#[0xb1]⟩ 1 none) := rfl
def am_isO : Bool := am_wd 74 (.instanceMethod objectInit) && true
theorem am_isC_ok : am_isC = true := by decide +kernel
theorem am_isO_ok : am_isO = true := by decide +kernel
def am_ck3 (k : Nat) (x : aI) : Bool :=
  match x with
  | (pc, ins, _, a, b, c, f, v, l, sw) =>
  match ins with
  | .iconst n => decide (Int32.ofInt n = v)
  | .bipush n => decide ((Int8.ofInt n).toInt32 = v)
  | .sipush n => decide ((Int16.ofInt n).toInt32 = v)
  | .ldc i => am_wd c (.constant (mY k).cls i v)
  | .ldc_w i => am_wd c (.constant (mY k).cls i v)
  | .ldc2_w i => am_wd c (.constantLong (mY k).cls i l)
  | .istore_n j => Nat.blt j.val (mL k)
  | .istore j => Nat.blt j (mL k)
  | .astore_n j => Nat.blt j.val (mL k)
  | .astore j => Nat.blt j (mL k)
  | .lstore_n j => Nat.blt (j.val + 1) (mL k)
  | .lstore j => Nat.blt (j + 1) (mL k)
  | .iinc j n => Nat.blt j (mL k) && decide (Int32.ofInt n = v)
  | .ifCond _ off => decide ((pc : Int) + off = (a : Int))
  | .if_icmp _ off => decide ((pc : Int) + off = (a : Int))
  | .goto off => decide ((pc : Int) + off = (a : Int))
  | .tableswitch d lo hi offs => decide ((pc : Int) + d = (a : Int)) && decide (hi = lo + (sw.length : Int) - 1) && am_tsw pc lo offs 0 sw
  | .lookupswitch d ps => decide ((pc : Int) + d = (a : Int)) && (ps.toList.zip (ps.toList.drop 1)).all (fun q => decide (q.1.1 < q.2.1)) && decide (ps.toList.map (fun q => (q.1, (pc : Int) + q.2)) = sw.map (fun q => (q.1.toInt, (q.2 : Int))))
  | .getfield i => am_ckf k i a b c f
  | .putfield i => am_ckf k i a b c f && am_fin k ((am_cls a).2.1 b)
  | .getstatic i => am_wd c (.fieldLink (mY k).cls i "FaceRounds" "SINES" "[I")
  | .new i => Nat.blt a 6 && am_wd c (.classLink (mY k).cls i (am_cls a).1) && Nat.beq f (am_cls a).2.2 && am_wd v.toNatClampNeg (.instantiable (am_cls a).1 f) && am_wd b (.initialized (am_cls a).1)
  | .newarray t => am_wd c (.arrayClass (newarray.typeOf t)) && Nat.beq (am_aty t) b && Nat.blt b 3 && am_num v a (componentBytes (newarray.typeOf t))
  | .anewarray i => am_wd c (.classLink (mY k).cls i "FaceRounds$State") && Nat.beq b 3 && am_num v a 4
  | .invokevirtual i => am_has am_Vs a && am_wd c (.methodLink (mY k).cls i (mY a)) && Nat.blt b 6 && decide ((am_cls b).1 = (mY a).cls) && (match f with
    | 0 => decide (mR a = none)
    | _ => !decide (mR a = none))
  | .invokestatic i => (match b with
    | 2 => am_wd c (.methodLink (mY k).cls i arraycopyName) && am_isC
    | 3 => am_wd c (.methodLink (mY k).cls i Lib.Math.max.name)
    | 4 => am_wd c (.methodLink (mY k).cls i Lib.Math.abs.name)
    | 1 => am_has am_Ss a && decide (am_nest[c]? = some (.methodLinkNest (mY k).cls i (mY a) "FaceRounds"))
    | _ => am_has am_Ss a && am_wd c (.methodLink (mY k).cls i (mY a)))
  | .invokespecial i => (match b with
    | 2 => am_wd c (.methodLink (mY k).cls i objectInit) && am_isO
    | 1 => am_has am_Is a && decide (am_nest[c]? = some (.methodLinkNest (mY k).cls i (mY a) "FaceRounds"))
    | _ => am_has am_Is a && am_wd c (.methodLink (mY k).cls i (mY a)))
  | .ireturn => (match mR k with
    | some .int => true
    | some .boolean => Nat.beq f 1
    | _ => false)
  | .return_ => decide (mR k = none)
  | _ => true
def am_ck (k : Nat) (x : aI) : Bool := decide (decode (mB k) x.1 = .ok (x.2.1, x.2.2.1)) && Nat.beq x.2.2.1 (am_len x.2.1 x.2.2.1) && am_ck3 k x
theorem am_ck_ok {k : Nat} {x : aI} (h : am_ck k x = true) : decode (mB k) x.1 = .ok (x.2.1, am_len x.2.1 x.2.2.1) ∧ am_ck3 k x = true := by
  simp only [am_ck, Bool.and_eq_true, decide_eq_true_eq] at h
  obtain ⟨⟨h1, h2⟩, h3⟩ := h
  rw [Nat.eq_of_beq_eq_true h2] at h1
  exact ⟨h1, h3⟩
end
section
/-! locals -/
theorem am_al_mem {f : Value → Value} : ∀ {lc : aL} {i j : Nat} {x : Value}, (j, x) ∈ am_al f i lc → ∃ v, i ≤ j ∧ am_nth lc (j - i) = some v ∧ x = f v
  | [], i, j, x, h => by simp [am_al] at h
  | none :: t, i, j, x, h => by
    obtain ⟨v, h1, h2, h3⟩ := am_al_mem (lc := t) (i := i + 1) h
    refine ⟨v, by omega, ?_, h3⟩
    rw [show j - i = (j - (i + 1)) + 1 by omega]
    exact h2
  | some w :: t, i, j, x, h => by
    rcases List.mem_cons.mp h with h | h
    · cases h
      exact ⟨w, Nat.le_refl _, by rw [Nat.sub_self]; rfl, rfl⟩
    · obtain ⟨v, h1, h2, h3⟩ := am_al_mem (lc := t) (i := i + 1) h
      refine ⟨v, by omega, ?_, h3⟩
      rw [show j - i = (j - (i + 1)) + 1 by omega]
      exact h2
theorem am_al_of {f : Value → Value} : ∀ {lc : aL} {i j : Nat} {v : Value}, am_nth lc j = some v → (i + j, f v) ∈ am_al f i lc
  | [], i, j, v, h => by simp [am_nth] at h
  | none :: t, i, j, v, h => by
    cases j with
    | zero => cases h
    | succ j =>
      have h1 := am_al_of (f := f) (lc := t) (i := i + 1) (j := j) (v := v) h
      rw [show i + (j + 1) = i + 1 + j by omega]
      exact h1
  | some w :: t, i, j, v, h => by
    cases j with
    | zero =>
      cases h
      exact List.mem_cons_self
    | succ j =>
      have h1 := am_al_of (f := f) (lc := t) (i := i + 1) (j := j) (v := v) h
      rw [show i + (j + 1) = i + 1 + j by omega]
      exact List.mem_cons_of_mem _ h1
theorem am_rd {ls : Array Slot} {n : Nat} {f : Value → Value} {lc : aL} {i : Nat} {v : Value} (h : lv_has ls n (am_al f 0 lc)) (hv : am_nth lc i = some v) : ls[i]? = some (.val (f v)) := by
  have h1 := h.2.2 _ (am_al_of (f := f) (i := 0) hv)
  rwa [Nat.zero_add] at h1
theorem am_up_len : ∀ (lc : aL) (i : Nat) (v : Option Value), (am_up lc i v).length = lc.length
  | [], _, _ => rfl
  | _ :: _, 0, _ => rfl
  | _ :: t, i + 1, v => by simp [am_up, am_up_len t i v]
theorem am_up_ne : ∀ (lc : aL) (i j : Nat) (v : Option Value), j ≠ i → am_nth (am_up lc i v) j = am_nth lc j
  | [], _, _, _, _ => rfl
  | o :: t, 0, 0, v, h => absurd rfl h
  | o :: t, 0, j + 1, v, h => rfl
  | o :: t, i + 1, 0, v, h => rfl
  | o :: t, i + 1, j + 1, v, h => am_up_ne t i j v (by omega)
theorem am_up_eq : ∀ (lc : aL) (i : Nat) (v : Option Value) (w : Value), am_nth (am_up lc i v) i = some w → v = some w
  | [], _, _, _, h => by simp [am_up, am_nth] at h
  | o :: t, 0, v, w, h => h
  | o :: t, i + 1, v, w, h => am_up_eq t i v w h
theorem am_cv_cat (base b t0 : Nat) (v : Value) : (am_cv base b t0 v).category = v.category := by
  cases v with
  | retAddr q => cases q <;> rfl
  | _ => rfl
theorem am_wr1 {ls' : Array Slot} {n : Nat} {base b t0 : Nat} {lc : aL} {i : Nat} {v : Value} (hn : am_nl lc i = true)
    (h : lv_has ls' n ((i, am_cv base b t0 v) :: (am_al (am_cv base b t0) 0 lc).filter (fun q => !(q.1 == i) && !(q.1 + 1 == i && q.2.category == 2)))) : lv_has ls' n (am_al (am_cv base b t0) 0 (am_up lc i (some v))) := by
  refine ⟨h.1, h.2.1, fun q hq => h.2.2 q ?_⟩
  obtain ⟨j, x⟩ := q
  obtain ⟨w, -, h2, rfl⟩ := am_al_mem hq
  rw [Nat.sub_zero] at h2
  by_cases hj : j = i
  · subst hj
    cases am_up_eq _ _ _ _ h2
    exact List.mem_cons_self
  · rw [am_up_ne _ _ _ _ hj] at h2
    refine List.mem_cons_of_mem _ (List.mem_filter.mpr ⟨?_, ?_⟩)
    · have h3 := am_al_of (f := am_cv base b t0) (i := 0) h2
      rwa [Nat.zero_add] at h3
    · simp only [Bool.and_eq_true, Bool.not_eq_true', beq_eq_false_iff_ne, ne_eq, Bool.and_eq_false_iff]
      refine ⟨hj, ?_⟩
      by_cases hji : j + 1 = i
      · right
        subst hji
        rw [am_cv_cat]
        simp only [am_nl, h2] at hn
        cases w <;> simp [Value.category] at hn ⊢
      · exact Or.inl hji
theorem am_wr2 {ls' : Array Slot} {n : Nat} {base b t0 : Nat} {lc : aL} {i : Nat} {x : Int64} (hn : am_nl lc i = true)
    (h : lv_has ls' n ((i, .long x) :: (am_al (am_cv base b t0) 0 lc).filter (fun q => !(q.1 == i) && (!(q.1 == i + 1) && !(q.1 + 1 == i && q.2.category == 2))))) : lv_has ls' n (am_al (am_cv base b t0) 0 (am_up (am_up lc i (some (.long x))) (i + 1) none)) := by
  refine ⟨h.1, h.2.1, fun q hq => h.2.2 q ?_⟩
  obtain ⟨j, y⟩ := q
  obtain ⟨w, -, h2, rfl⟩ := am_al_mem hq
  rw [Nat.sub_zero] at h2
  by_cases hj1 : j = i + 1
  · subst hj1
    exact absurd (am_up_eq _ _ _ _ h2) (by simp)
  · rw [am_up_ne _ _ _ _ hj1] at h2
    by_cases hj : j = i
    · subst hj
      cases am_up_eq _ _ _ _ h2
      exact List.mem_cons_self
    · rw [am_up_ne _ _ _ _ hj] at h2
      refine List.mem_cons_of_mem _ (List.mem_filter.mpr ⟨?_, ?_⟩)
      · have h3 := am_al_of (f := am_cv base b t0) (i := 0) h2
        rwa [Nat.zero_add] at h3
      · simp only [Bool.and_eq_true, Bool.not_eq_true', beq_eq_false_iff_ne, ne_eq, Bool.and_eq_false_iff]
        refine ⟨hj, hj1, ?_⟩
        by_cases hji : j + 1 = i
        · right
          subst hji
          rw [am_cv_cat]
          simp only [am_nl, h2] at hn
          cases w <;> simp [Value.category] at hn ⊢
        · exact Or.inl hji
/-! what the small conditions say -/
theorem am_gi_ok {lc : aL} {i : Nat} {f : Int32 → Prop} (h : am_gi lc i f) : ∃ x, am_nth lc i = some (.int x) ∧ f x := by
  unfold am_gi at h
  split at h
  · exact ⟨_, by assumption, h⟩
  · exact h.elim
theorem am_gl_ok {lc : aL} {i : Nat} {f : Int64 → Prop} (h : am_gl lc i f) : ∃ x, am_nth lc i = some (.long x) ∧ f x := by
  unfold am_gl at h
  split at h
  · exact ⟨_, by assumption, h⟩
  · exact h.elim
theorem am_ga_ok {lc : aL} {i : Nat} {f : Value → Prop} (h : am_ga lc i f) : ∃ x, am_nth lc i = some x ∧ ((∃ j, x = .ref j) ∨ ∃ j, x = .retAddr j) ∧ f x := by
  unfold am_ga at h
  split at h
  · exact ⟨_, by assumption, Or.inl ⟨_, rfl⟩, h⟩
  · exact ⟨_, by assumption, Or.inr ⟨_, rfl⟩, h⟩
  · exact h.elim
theorem am_i_ok {st : List Value} {f : Int32 → List Value → Prop} (h : am_i st f) : ∃ x r, st = .int x :: r ∧ f x r := by
  unfold am_i at h
  split at h
  · exact ⟨_, _, rfl, h⟩
  · exact h.elim
theorem am_ii_ok {st : List Value} {f : Int32 → Int32 → List Value → Prop} (h : am_ii st f) : ∃ x y r, st = .int y :: .int x :: r ∧ f x y r := by
  unfold am_ii at h
  split at h
  · exact ⟨_, _, _, rfl, h⟩
  · exact h.elim
theorem am_l_ok {st : List Value} {f : Int64 → List Value → Prop} (h : am_l st f) : ∃ x r, st = .long x :: r ∧ f x r := by
  unfold am_l at h
  split at h
  · exact ⟨_, _, rfl, h⟩
  · exact h.elim
theorem am_ll_ok {st : List Value} {f : Int64 → Int64 → List Value → Prop} (h : am_ll st f) : ∃ x y r, st = .long y :: .long x :: r ∧ f x y r := by
  unfold am_ll at h
  split at h
  · exact ⟨_, _, _, rfl, h⟩
  · exact h.elim
theorem am_a_ok {st : List Value} {f : Value → List Value → Prop} (h : am_a st f) : ∃ x r, st = x :: r ∧ ((∃ j, x = .ref j) ∨ ∃ j, x = .retAddr j) ∧ f x r := by
  unfold am_a at h
  split at h
  · exact ⟨_, _, rfl, Or.inl ⟨_, rfl⟩, h⟩
  · exact ⟨_, _, rfl, Or.inr ⟨_, rfl⟩, h⟩
  · exact h.elim
theorem am_sv_ok {lc : aL} {i : Nat} {v : Value} {f : aL → Prop} (h : am_sv lc i v f) : am_nl lc i = true ∧ f (am_up lc i (some v)) := by
  unfold am_sv at h
  split at h
  · exact ⟨by assumption, h⟩
  · exact h.elim
theorem am_sl_ok {lc : aL} {i : Nat} {x : Int64} {f : aL → Prop} (h : am_sl lc i x f) : am_nl lc i = true ∧ f (am_up (am_up lc i (some (.long x))) (i + 1) none) := by
  unfold am_sl at h
  split at h
  · exact ⟨by assumption, h⟩
  · exact h.elim
theorem am_room_ok {u cap : Nat × Nat} {f : Prop} (h : am_room u cap f) : u.1 ≤ cap.1 ∧ u.2 ≤ cap.2 ∧ f := by
  unfold am_room at h
  split at h
  · rename_i hb
    simp only [Bool.and_eq_true] at hb
    exact ⟨Nat.le_of_ble_eq_true hb.1, Nat.le_of_ble_eq_true hb.2, h⟩
  · exact h.elim
theorem am_ob_ok {w : aW} {i ci : Nat} {f : Prop} (h : am_ob w i ci f) : i < w.1 ∧ w.2.1 i = (0, ci) ∧ f := by
  unfold am_ob at h
  split at h
  · rename_i c hb he
    split at h
    · rename_i hc
      refine ⟨by simpa using hb, ?_, h⟩
      rw [he, Nat.eq_of_beq_eq_true hc]
    · exact h.elim
  · exact h.elim
theorem am_ar_ok {w : aW} {i t : Nat} {f : Nat → Prop} (h : am_ar w i t f) : ∃ n, i < w.1 ∧ w.2.1 i = (t + 1, n) ∧ f n := by
  unfold am_ar at h
  split at h
  · rename_i t' n hb he
    split at h
    · rename_i hc
      refine ⟨n, by simpa using hb, ?_, h⟩
      rw [he, Nat.eq_of_beq_eq_true hc]
    · exact h.elim
  · exact h.elim
theorem am_alen_ok {w : aW} {i : Nat} {f : Nat → Prop} (h : am_alen w i f) : ∃ t n, i < w.1 ∧ w.2.1 i = (t + 1, n) ∧ t < 4 ∧ f n := by
  unfold am_alen at h
  split at h
  · rename_i t n hb he
    split at h
    · rename_i ht
      exact ⟨t, n, by simpa using hb, he, by simpa using ht, h⟩
    · exact h.elim
  · exact h.elim
theorem am_cpa_ok {w : aW} {q0 q1 : Nat} {f : Nat → Nat → Nat → Prop} (h : am_cpa w q0 q1 f) : ∃ t n0 n1, q0 < w.1 ∧ q1 < w.1 ∧ w.2.1 q0 = (t + 1, n0) ∧ w.2.1 q1 = (t + 1, n1) ∧ f t n0 n1 := by
  unfold am_cpa at h
  split at h
  · rename_i t0 n0 t1 n1 hb0 hb1 he0 he1
    split at h
    · rename_i hc
      have := Nat.eq_of_beq_eq_true hc
      subst this
      exact ⟨t0, n0, n1, by simpa using hb0, by simpa using hb1, he0, he1, h⟩
    · exact h.elim
  · exact h.elim
theorem am_cs_map (base b t0 : Nat) : ∀ r : List Value, ((r.map (am_cv base b t0)).map fun v => v.category).sum = am_cs r
  | [] => rfl
  | v :: r => by
    have h := am_cs_map base b t0 r
    simp only [List.map_cons, List.sum_cons, am_cv_cat]
    rw [h]
    cases v <;> simp [am_cs, Value.category] <;> omega
theorem am_cs8_ok {r : List Value} {f : Prop} (h : am_cs8 r f) : am_cs r ≤ 8 ∧ f := by
  unfold am_cs8 at h
  split at h
  · rename_i hb
    exact ⟨Nat.le_of_ble_eq_true hb, h⟩
  · exact h.elim
theorem am_pop_ok : ∀ {n : Nat} {st acc : List Value} {f : List Value → List Value → Prop}, am_pop n st acc f → ∃ av r, av.length = n ∧ st = av.reverse ++ r ∧ f (av ++ acc) r
  | 0, st, acc, f, h => ⟨[], st, rfl, rfl, h⟩
  | n + 1, [], acc, f, h => h.elim
  | n + 1, v :: st, acc, f, h => by
    obtain ⟨av, r, h1, h2, h3⟩ := am_pop_ok (n := n) (st := st) (acc := v :: acc) h
    exact ⟨av ++ [v], r, by simp [h1], by simp [h2], by simpa using h3⟩
/-! worlds -/
theorem am_ws_get {base : Nat} {ty : Nat → ClassId} {w : aW} {i : Nat} (h : i < w.1) : (am_ws base ty w)[i]? = some (base + i, am_cell base ty w i) := by
  simp [am_ws, h]
theorem am_ws_len (base : Nat) (ty : Nat → ClassId) (w : aW) : (am_ws base ty w).length = w.1 := by simp [am_ws]
theorem am_ws_set {base : Nat} {ty : Nat → ClassId} {w w' : aW} {i : Nat} {e : va_E} (h : i < w.1) (h1 : w'.1 = w.1) (he : am_cell base ty w' i = e) (ho : ∀ j, j ≠ i → am_cell base ty w' j = am_cell base ty w j) : (am_ws base ty w).set i (base + i, e) = am_ws base ty w' := by
  apply List.ext_getElem?
  intro j
  by_cases hj : j = i
  · subst hj
    rw [List.getElem?_set_self (by rw [am_ws_len]; exact h), am_ws_get (by rw [h1]; exact h), he]
  · rw [List.getElem?_set_ne (fun q => hj q.symm)]
    by_cases hl : j < w.1
    · rw [am_ws_get hl, am_ws_get (by rw [h1]; exact hl), ho j hj]
    · rw [List.getElem?_eq_none (by rw [am_ws_len]; omega), List.getElem?_eq_none (by rw [am_ws_len]; omega)]
theorem am_ws_push {base : Nat} {ty : Nat → ClassId} {w w' : aW} {e : va_E} (h1 : w'.1 = w.1 + 1) (he : am_cell base ty w' w.1 = e) (ho : ∀ j, j < w.1 → am_cell base ty w' j = am_cell base ty w j) : am_ws base ty w ++ [(base + w.1, e)] = am_ws base ty w' := by
  apply List.ext_getElem?
  intro j
  by_cases hl : j < w.1
  · rw [List.getElem?_append_left (by rw [am_ws_len]; exact hl), am_ws_get hl, am_ws_get (by omega), ho j hl]
  · rw [List.getElem?_append_right (by rw [am_ws_len]; omega), am_ws_len]
    by_cases hj : j = w.1
    · subst hj
      rw [Nat.sub_self, am_ws_get (by omega), he]
      rfl
    · rw [List.getElem?_eq_none (by simp; omega), List.getElem?_eq_none (by rw [am_ws_len]; omega)]
theorem am_ws_at {base : Nat} {ty : Nat → ClassId} {w : aW} {k : Nat} {q : Nat × va_E} (h : (am_ws base ty w)[k]? = some q) : k < w.1 ∧ q = (base + k, am_cell base ty w k) := by
  have hl := (List.getElem?_eq_some_iff.mp h).1
  rw [am_ws_len] at hl
  rw [am_ws_get hl] at h
  exact ⟨hl, (Option.some.inj h).symm⟩
theorem am_ws_D (base : Nat) (ty : Nat → ClassId) (w : aW) : va_D (am_A base) (am_ws base ty w) := by
  refine ⟨fun i j p q hi hj hpq => ?_, fun k q hk => ?_⟩
  · obtain ⟨-, rfl⟩ := am_ws_at hi
    obtain ⟨-, rfl⟩ := am_ws_at hj
    have : base + i = base + j := hpq
    omega
  · obtain ⟨-, rfl⟩ := am_ws_at hk
    exact Nat.le_add_right _ _
theorem am_ws_size {D : va_G} {base : Nat} {ty : Nat → ClassId} {w : aW} {H : Heap} (h : va_P D vwCl (am_ws base ty w) H) (hb : base ≤ H.size) : base + w.1 ≤ H.size := by
  by_cases h0 : w.1 = 0
  · omega
  · have := (h (w.1 - 1) _ (am_ws_get (by omega))).lt
    have h2 : base + (w.1 - 1) < H.size := this
    omega
theorem am_cell_ob {base : Nat} {ty : Nat → ClassId} {w : aW} {i ci : Nat} (h : w.2.1 i = (0, ci)) : am_cell base ty w i = .inr (ci, am_fl (am_fv base w i) 0 (am_fk ci)) := by
  unfold am_cell
  rw [h]
theorem am_cell_ar {base : Nat} {ty : Nat → ClassId} {w : aW} {i t n : Nat} (h : w.2.1 i = (t + 1, n)) (ht : t ≠ 3) : am_cell base ty w i = .inl (ty t, n, .inl (w.2.2.1 i)) := by
  unfold am_cell
  rw [h]
  have : Nat.beq t 3 = false := by
    cases hb : Nat.beq t 3 with
    | false => rfl
    | true => exact absurd (Nat.eq_of_beq_eq_true hb) ht
  simp only [this]
theorem am_cell_aq {base : Nat} {ty : Nat → ClassId} {w : aW} {i n : Nat} (h : w.2.1 i = (4, n)) : am_cell base ty w i = .inl (ty 3, n, .inr (.inr (.inr (.inr (fun j => (w.2.2.2 i j).map (base + ·)))))) := by
  unfold am_cell
  rw [h]
theorem am_fl_get (f : Nat → Bool → Value) : ∀ (l : List Bool) (k j : Nat) (r : Bool), l[j]? = some r → (am_fl f k l)[j]? = some (f (k + j) r)
  | [], k, j, r, h => by simp at h
  | x :: t, k, 0, r, h => by
    simp only [List.getElem?_cons_zero, Option.some.injEq] at h
    subst h
    rfl
  | x :: t, k, j + 1, r, h => by
    rw [List.getElem?_cons_succ] at h
    have h1 := am_fl_get f t (k + 1) j r h
    rw [show k + (j + 1) = k + 1 + j by omega, ← h1]
    rfl
theorem am_fl_len (f : Nat → Bool → Value) : ∀ (l : List Bool) (k : Nat), (am_fl f k l).length = l.length
  | [], _ => rfl
  | _ :: t, k => by simp [am_fl, am_fl_len f t (k + 1)]
theorem am_fl_set {f g : Nat → Bool → Value} : ∀ (l : List Bool) (k j : Nat) (r : Bool) (v : Value), l[j]? = some r → g (k + j) r = v → (∀ i b, i ≠ k + j → g i b = f i b) → (am_fl f k l).set j v = am_fl g k l
  | [], k, j, r, v, h, _, _ => by simp at h
  | x :: t, k, 0, r, v, h, hv, ho => by
    simp only [List.getElem?_cons_zero, Option.some.injEq] at h
    subst h
    show v :: am_fl f (k + 1) t = g k x :: am_fl g (k + 1) t
    rw [Nat.add_zero] at hv ho
    rw [hv]
    congr 1
    have : ∀ (l : List Bool) (m : Nat), k < m → am_fl f m l = am_fl g m l := by
      intro l
      induction l with
      | nil => intro m _; rfl
      | cons y l ih =>
        intro m hm
        show f m y :: am_fl f (m + 1) l = g m y :: am_fl g (m + 1) l
        rw [ho m y (by omega), ih (m + 1) (by omega)]
    exact this t (k + 1) (by omega)
  | x :: t, k, j + 1, r, v, h, hv, ho => by
    rw [List.getElem?_cons_succ] at h
    show f k x :: (am_fl f (k + 1) t).set j v = g k x :: am_fl g (k + 1) t
    rw [ho k x (by omega), am_fl_set t (k + 1) j r v h (by rw [← hv]; congr 1; omega) (fun i b hi => ho i b (by omega))]
/-- the stand's count of new cells bounds the heap -/
theorem am_size {p : Program} {l : Launch} {e : Env} {R : Room} {s : State} {m : MethodId} {args : Array Value} {below : List Frame} {meth : Method} {c : Code} {H : Heap} {locs : List Loc} {cells slots : Nat} {Q : State → Prop} {g : JFrame}
    (h : H.size ≤ s.heap.size + cells → W p l e R s m args below meth c H locs cells slots Q g) : W p l e R s m args below meth c H locs cells slots Q g := by
  intro T hT X
  exact h (by rw [← hT]; exact X.heapSize) T hT X
theorem am_inC : ∀ a, a < 6 → ∀ w ∈ u_ws (am_cls a).1 (am_cls a).2.1 (am_cls a).2.2, w ∈ am_tbl := by
  have h : ∀ a, a < 6 → (u_ws (am_cls a).1 (am_cls a).2.1 (am_cls a).2.2).all am_in = true := by decide +kernel
  intro a ha w hw
  exact am_in_ok (List.all_eq_true.mp (h a ha) w hw)
theorem am_nmC : ∀ a, a < 6 → ∀ i, i < (am_cls a).2.2 → ∀ j, j < (am_cls a).2.2 → i ≠ j → ((am_cls a).2.1 i).2.1 ≠ ((am_cls a).2.1 j).2.1 := by decide +kernel
def am_tyC (a : Nat) : Nat → FieldType := fun k => (parseFieldDescriptor ((am_cls a).2.1 k).2.2.1).getD .int
theorem am_tyC_ok : ∀ a, a < 6 → ∀ k, k < (am_cls a).2.2 → parseFieldDescriptor ((am_cls a).2.1 k).2.2.1 = some (am_tyC a k) := by
  have h : ∀ a, a < 6 → ∀ k, k < (am_cls a).2.2 → (parseFieldDescriptor ((am_cls a).2.1 k).2.2.1).isSome = true := by decide +kernel
  intro a ha k hk
  obtain ⟨x, hx⟩ := Option.isSome_iff_exists.mp (h a ha k hk)
  rw [am_tyC, hx]
  rfl
theorem am_clC : ∀ a, a < 6 → vwCl[a]? = some (am_cls a) := by
  intro a ha
  match a, ha with
  | 0, _ => rfl
  | 1, _ => rfl
  | 2, _ => rfl
  | 3, _ => rfl
  | 4, _ => rfl
  | 5, _ => rfl
end
section
theorem am_Call.mono {d k : Nat} {av : List Value} {w : aW} {P P' : Option Value → aW → Prop} (h : am_Call d k av w P) (hp : ∀ r w', P r w' → P' r w') : am_Call d k av w P' := by
  intro l D ty base b t0 p e ha hc hk s m args below hf happ hP hK
  obtain ⟨n, o, h1, h2, h3, ⟨⟨r, w', q1, q2, q3⟩, q4⟩, h5⟩ := h l D ty base b t0 p e ha hc hk s m args below hf happ hP hK
  exact ⟨n, o, h1, h2, h3, ⟨⟨r, w', q1, hp _ _ q2, q3⟩, q4⟩, h5⟩
theorem am_cell_congr {base : Nat} {ty : Nat → ClassId} {w w' : aW} {j : Nat} (h1 : w'.2.1 j = w.2.1 j) (h2 : w'.2.2.1 j = w.2.2.1 j) (h3 : w'.2.2.2 j = w.2.2.2 j) : am_cell base ty w' j = am_cell base ty w j := by
  have hf : am_fv base w' j = am_fv base w j := by
    funext k r
    cases r
    · show Value.int (w'.2.2.1 j k) = Value.int (w.2.2.1 j k)
      rw [h2]
    · show va_rf ((w'.2.2.2 j k).map (base + ·)) = va_rf ((w.2.2.2 j k).map (base + ·))
      rw [h3]
  unfold am_cell
  rw [h1, h2, h3, hf]
theorem am_u2_ne {C : Nat → Nat → Int32} {i k j : Nat} {x : Int32} (h : j ≠ i) : am_u2 C i k x j = C j := by
  funext b
  simp [am_u2, h]
theorem am_uF_ne {C : Nat → Nat → Option Nat} {i k j : Nat} {x : Option Nat} (h : j ≠ i) : am_uF C i k x j = C j := by
  funext b
  simp [am_uF, h]
theorem am_uR_ne {α : Type} {C : Nat → α} {i j : Nat} {x : α} (h : j ≠ i) : am_uR C i x j = C j := by simp [am_uR, h]
theorem am_uS_ne {C : Nat → Nat × Nat} {i j : Nat} {x : Nat × Nat} (h : j ≠ i) : am_uS C i x j = C j := by simp [am_uS, h]
/-- writing an int field -/
theorem am_putC {base : Nat} {ty : Nat → ClassId} {w : aW} {i a k : Nat} {y : Int32} (hi : i < w.1) (hs : w.2.1 i = (0, a)) (hk : (am_fk a)[k]? = some false) :
    (am_ws base ty w).set i (base + i, .inr (a, (am_fl (am_fv base w i) 0 (am_fk a)).set k (.int y))) = am_ws base ty (am_wC w (am_u2 w.2.2.1 i k y)) := by
  refine am_ws_set hi rfl ?_ (fun j hj => am_cell_congr rfl (am_u2_ne hj) rfl)
  rw [am_cell_ob (show (am_wC w (am_u2 w.2.2.1 i k y)).2.1 i = (0, a) from hs)]
  congr 2
  refine (am_fl_set _ _ _ false _ hk ?_ ?_).symm
  · rw [Nat.zero_add]
    show Value.int (am_u2 w.2.2.1 i k y i k) = Value.int y
    simp [am_u2]
  · intro q r hq
    rw [Nat.zero_add] at hq
    cases r
    · show Value.int (am_u2 w.2.2.1 i k y i q) = Value.int (w.2.2.1 i q)
      simp [am_u2, hq]
    · rfl
/-- writing a reference field -/
theorem am_putF {base : Nat} {ty : Nat → ClassId} {w : aW} {i a k j0 : Nat} (hi : i < w.1) (hs : w.2.1 i = (0, a)) (hk : (am_fk a)[k]? = some true) :
    (am_ws base ty w).set i (base + i, .inr (a, (am_fl (am_fv base w i) 0 (am_fk a)).set k (.ref (base + j0)))) = am_ws base ty (am_wF w (am_uF w.2.2.2 i k (some j0))) := by
  refine am_ws_set hi rfl ?_ (fun j hj => am_cell_congr rfl rfl (am_uF_ne hj))
  rw [am_cell_ob (show (am_wF w (am_uF w.2.2.2 i k (some j0))).2.1 i = (0, a) from hs)]
  congr 2
  refine (am_fl_set _ _ _ true _ hk ?_ ?_).symm
  · rw [Nat.zero_add]
    show va_rf ((am_uF w.2.2.2 i k (some j0) i k).map (base + ·)) = _
    simp [am_uF, va_rf]
  · intro q r hq
    rw [Nat.zero_add] at hq
    cases r
    · rfl
    · show va_rf ((am_uF w.2.2.2 i k (some j0) i q).map (base + ·)) = va_rf ((w.2.2.2 i q).map (base + ·))
      simp [am_uF, hq]
/-- writing into an array of numbers -/
theorem am_putA {base : Nat} {ty : Nat → ClassId} {w : aW} {i t n k : Nat} {y : Int32} (hi : i < w.1) (hs : w.2.1 i = (t + 1, n)) (ht : t ≠ 3) :
    (am_ws base ty w).set i (base + i, .inl (ty t, n, .inl (upd (w.2.2.1 i) k y))) = am_ws base ty (am_wC w (am_u2 w.2.2.1 i k y)) := by
  refine am_ws_set hi rfl ?_ (fun j hj => am_cell_congr rfl (am_u2_ne hj) rfl)
  rw [am_cell_ar (show (am_wC w (am_u2 w.2.2.1 i k y)).2.1 i = (t + 1, n) from hs) ht]
  have : (am_wC w (am_u2 w.2.2.1 i k y)).2.2.1 i = upd (w.2.2.1 i) k y := by
    funext q
    show am_u2 w.2.2.1 i k y i q = upd (w.2.2.1 i) k y q
    simp [am_u2, upd]
  rw [this]
theorem am_putR {base : Nat} {ty : Nat → ClassId} {w : aW} {i t n : Nat} {g : Nat → Int32} (hi : i < w.1) (hs : w.2.1 i = (t + 1, n)) (ht : t ≠ 3) :
    (am_ws base ty w).set i (base + i, .inl (ty t, n, .inl g)) = am_ws base ty (am_wC w (am_uR w.2.2.1 i g)) := by
  refine am_ws_set hi rfl ?_ (fun j hj => am_cell_congr rfl (am_uR_ne hj) rfl)
  rw [am_cell_ar (show (am_wC w (am_uR w.2.2.1 i g)).2.1 i = (t + 1, n) from hs) ht]
  have : (am_wC w (am_uR w.2.2.1 i g)).2.2.1 i = g := by
    show am_uR w.2.2.1 i g i = g
    simp [am_uR]
  rw [this]
theorem am_putQ {base : Nat} {ty : Nat → ClassId} {w : aW} {i n k j0 : Nat} (hi : i < w.1) (hs : w.2.1 i = (4, n)) :
    (am_ws base ty w).set i (base + i, .inl (ty 3, n, .inr (.inr (.inr (.inr (va_up (fun j => (w.2.2.2 i j).map (base + ·)) k (some (base + j0)))))))) = am_ws base ty (am_wF w (am_uF w.2.2.2 i k (some j0))) := by
  refine am_ws_set hi rfl ?_ (fun j hj => am_cell_congr rfl rfl (am_uF_ne hj))
  rw [am_cell_aq (show (am_wF w (am_uF w.2.2.2 i k (some j0))).2.1 i = (4, n) from hs)]
  have : (fun j => ((am_wF w (am_uF w.2.2.2 i k (some j0))).2.2.2 i j).map (base + ·)) = va_up (fun j => (w.2.2.2 i j).map (base + ·)) k (some (base + j0)) := by
    funext q
    show (am_uF w.2.2.2 i k (some j0) i q).map (base + ·) = _
    by_cases hq : q = k
    · subst hq
      rw [va_up_self]
      simp [am_uF]
    · rw [va_up_ne _ _ hq]
      simp [am_uF, hq]
  rw [this]
/-- a new cell lies right behind the world -/
theorem am_new_at {D : va_G} {base : Nat} {ty : Nat → ClassId} {w : aW} {q : Nat} {e : va_E} {H1 : Heap} (hD : va_D (am_A base) (am_ws base ty w ++ [(q, e)])) (hP : va_P D vwCl (am_ws base ty w ++ [(q, e)]) H1) (hz : H1.size ≤ base + w.1 + 1) : q = base + w.1 := by
  have hl : (am_ws base ty w ++ [(q, e)])[w.1]? = some (q, e) := by
    rw [List.getElem?_append_right (by rw [am_ws_len]; exact Nat.le_refl _), am_ws_len, Nat.sub_self]
    rfl
  have h1 : base ≤ q := hD.2 _ _ hl
  have h2 : q < H1.size := (hP _ _ hl).lt
  by_cases h : q = base + w.1
  · exact h
  · exfalso
    have h3 : q - base < w.1 := by omega
    have h4 : (am_ws base ty w ++ [(q, e)])[q - base]? = some (base + (q - base), am_cell base ty w (q - base)) := by
      rw [List.getElem?_append_left (by rw [am_ws_len]; exact h3)]
      exact am_ws_get h3
    have h5 := hD.1 _ _ _ _ h4 hl (by show base + (q - base) = q; omega)
    omega
/-- what the fields of a new object hold -/
theorem am_dfl : ∀ a, a < 6 → ∀ j, j < (am_cls a).2.2 → (am_fk a)[j]? = some (match am_tyC a j with
    | .object _ => true
    | .array _ => true
    | _ => false) ∧ defaultValue (am_tyC a j) = (match am_tyC a j with
    | .object _ => .null
    | .array _ => .null
    | _ => .int 0) := by decide +kernel
/-! switches -/
theorem am_tsw_ok {pc : Nat} {lo : Int} {offs : Array Int} {x : Int32} {K : Nat → Prop} {Dd : Prop} : ∀ (sw : List (Int32 × Nat)) (j0 : Nat), am_tsw pc lo offs j0 sw = true → am_sw x K Dd sw →
    (∃ (i t : Nat) (o : Int), i < sw.length ∧ x.toInt = lo + ((j0 + i : Nat) : Int) ∧ offs[j0 + i]? = some o ∧ (pc : Int) + o = (t : Int) ∧ K t) ∨ ((∀ i, i < sw.length → x.toInt ≠ lo + ((j0 + i : Nat) : Int)) ∧ Dd)
  | [], j0, _, h => Or.inr ⟨fun i hi => by simp at hi, h⟩
  | q :: t, j0, hc, h => by
    simp only [am_tsw, Bool.and_eq_true, decide_eq_true_eq] at hc
    obtain ⟨⟨h1, h2⟩, h3⟩ := hc
    by_cases hx : x = q.1
    · left
      split at h2
      · rename_i o ho
        refine ⟨0, q.2, o, by simp, ?_, ho, of_decide_eq_true h2, h.1 hx⟩
        rw [hx, h1]
        simp
      · cases h2
    · rcases am_tsw_ok t (j0 + 1) h3 (h.2 hx) with ⟨i, t', o, a1, a2, a3, a4, a5⟩ | ⟨a1, a2⟩
      · left
        refine ⟨i + 1, t', o, by simp; omega, ?_, ?_, a4, a5⟩
        · rw [a2, show j0 + 1 + i = j0 + (i + 1) by omega]
        · rw [← a3, show j0 + 1 + i = j0 + (i + 1) by omega]
      · right
        refine ⟨fun i hi => ?_, a2⟩
        cases i with
        | zero =>
          intro he
          apply hx
          apply Int32.toInt_inj.mp
          rw [he, h1]
          simp
        | succ i =>
          have := a1 i (by simp at hi; omega)
          rw [show j0 + 1 + i = j0 + (i + 1) by omega] at this
          exact this
theorem am_lsw_ok {pc : Nat} {dflt : Int} {x : Int32} {K : Nat → Prop} {Dd : Prop} : ∀ (L : List (Int × Int)) (sw : List (Int32 × Nat)), L.map (fun q => (q.1, (pc : Int) + q.2)) = sw.map (fun q => (q.1.toInt, (q.2 : Int))) → am_sw x K Dd sw →
    (∃ t : Nat, (pc : Int) + Op.lookupswitch.offset L dflt x.toInt = (t : Int) ∧ K t) ∨ (Op.lookupswitch.offset L dflt x.toInt = dflt ∧ Dd)
  | [], [], _, h => Or.inr ⟨rfl, h⟩
  | [], q :: t, he, h => by simp at he
  | p :: L, [], he, h => by simp at he
  | (a, o) :: L, q :: t, he, h => by
    simp only [List.map_cons, List.cons.injEq, Prod.mk.injEq] at he
    obtain ⟨⟨h1, h2⟩, h3⟩ := he
    rw [Op.lookupswitch.offset_cons]
    by_cases hx : x = q.1
    · left
      refine ⟨q.2, ?_, h.1 hx⟩
      rw [if_pos (by rw [h1, hx]), h2]
    · have hne : ¬ a = x.toInt := fun e => hx (Int32.toInt_inj.mp (by rw [← e, h1]))
      rw [if_neg hne]
      exact am_lsw_ok L t h3 (h.2 hx)
end
section
theorem am_nest_form : ∀ w ∈ am_nest, ∃ a i x h, w = .methodLinkNest a i x h := by
  intro w hw
  simp only [am_nest, List.mem_cons, List.not_mem_nil, or_false] at hw
  rcases hw with rfl | rfl | rfl | rfl | rfl | rfl <;> exact ⟨_, _, _, _, rfl⟩
theorem am_En.mv {D : va_G} {ty : Nat → ClassId} {base t0 : Nat} {u U : State} {H : Heap} (h : am_En D ty base t0 u H) (hvm : u.vm.Alike U.vm) (hn : ∀ w ∈ am_nest, va_Nw w U) : am_En D ty base t0 U H :=
  ⟨h.1.moved hvm, h.2.1.moved hvm, h.2.2.1.moved hvm, hn, h.2.2.2.2.moved hvm⟩
theorem am_En.call {D : va_G} {ty : Nat → ClassId} {base t0 : Nat} {s U : State} {H : Heap} {locs : List Loc} (h : am_En D ty base t0 s s.heap) (hS : va_S (am_A base) s.heap H locs) (hU : U.heap = H) (hW : s.WarmedH U.vm) : am_En D ty base t0 U U.heap := by
  rw [hU]
  refine am_En.mv (u := s) ⟨h.1, h.2.1.kept hS.2.1, h.2.2.1.kept hS.2.1, h.2.2.2⟩ hW.alike ?_
  intro w hw
  obtain ⟨a, i, x, y, rfl⟩ := am_nest_form w hw
  exact va_Nw.warmM hW (h.2.2.2.1 _ hw)
theorem am_blind {D : va_G} {ty : Nat → ClassId} {base t0 n : Nat} {av : List Value} {ws : va_W} : FrameBlind (va_Pc av (fun U => am_En D ty base t0 U U.heap ∧ va_P D vwCl ws U.heap ∧ U.heap.size = n)) := by
  intro a U g mk h
  obtain ⟨h1, h2, h3, h4⟩ := h
  refine ⟨h1, h2.mv (Vm.Alike.refl U.vm) ?_, h3, h4⟩
  intro w hw
  obtain ⟨a, i, x, y, rfl⟩ := am_nest_form w hw
  exact va_Nw.same rfl rfl (h2.2.2.2.1 _ hw)
theorem am_code_in {a : Nat} (ha : a < 164) : Cond.code (mY a) (mB a) (mL a) (mR a) ∈ am_tbl := by
  have h := congrArg (fun l => l[a]?) am_codes
  simp only [List.getElem?_map, List.getElem?_range ha, Option.map_some, Option.some.injEq] at h
  exact List.mem_filter.mpr ⟨List.mem_of_getElem? h, rfl⟩
theorem am_goodIn {a : Nat} (ha : a < 164) : GoodIn am_tbl (am_mw a) := by
  intro w hw
  rcases List.mem_cons.mp hw with rfl | hw
  · exact ⟨am_code_in ha, am_tbl_good _ (am_code_in ha)⟩
  · exact ⟨hw, am_tbl_good _ hw⟩
theorem am_goodAt {w : Cond} {big : List Cond} (h : w ∈ am_tbl) : w ∈ am_tbl ∧ ((w.onTables && w.keeps) = true ∨ ∃ ty, w = .arrayClass ty) := ⟨h, am_tbl_good _ h⟩
theorem am_has_ok {l : List (Nat × Nat × Nat × Nat)} {f : Nat × Nat × Nat × Nat → Bool} {a : Nat} (hl : l.all f = true) (h : am_has l a = true) : ∃ q, q.1 = a ∧ f q = true := by
  obtain ⟨q, hq, hb⟩ := List.any_eq_true.mp h
  exact ⟨q, Nat.eq_of_beq_eq_true hb, List.all_eq_true.mp hl q hq⟩
theorem am_okC_ok {q : Nat × Nat × Nat × Nat} (h : am_okC q = true) : (.initialized (mY q.1).cls : Cond) ∈ am_tbl ∧ ((mY q.1).cls ≠ "java/lang/invoke/MethodHandle" ∧ (mY q.1).cls ≠ "java/lang/invoke/VarHandle" ∧ (parseMethodDescriptor (mY q.1).desc).map (fun d => d.parameters.length) = some (mN q.1)) ∧ mL q.1 ≤ 21 ∧ q.1 < 164 ∧ plainFor (mY q.1) = true := by
  simp only [am_okC, Bool.and_eq_true, decide_eq_true_eq] at h
  obtain ⟨⟨⟨⟨⟨⟨h1, h2⟩, h3⟩, h4⟩, h5⟩, h6⟩, h7⟩ := h
  exact ⟨am_wd_ok h1, ⟨h2, h3, h4⟩, Nat.le_of_ble_eq_true h5, by simpa using h6, h7⟩
theorem am_Vs_at {a : Nat} (h : am_has am_Vs a = true) : am_okC (a, 0, 0, 0) = am_okC (a, 0, 0, 0) ∧ (.initialized (mY a).cls : Cond) ∈ am_tbl ∧ ((mY a).cls ≠ "java/lang/invoke/MethodHandle" ∧ (mY a).cls ≠ "java/lang/invoke/VarHandle" ∧ (parseMethodDescriptor (mY a).desc).map (fun d => d.parameters.length) = some (mN a)) ∧ mL a ≤ 21 ∧ a < 164 ∧ (.instanceMethod (mY a) : Cond) ∈ am_tbl ∧ (.selects (mY a).cls (mY a) (mY a) : Cond) ∈ am_tbl ∧ mC a = 0 ∧ mS a = 0 := by
  obtain ⟨q, rfl, hq⟩ := am_has_ok am_Vs_ok h
  simp only [am_okV, Bool.and_eq_true] at hq
  obtain ⟨⟨⟨⟨h1, h2⟩, h3⟩, h4⟩, h5⟩ := hq
  obtain ⟨a1, a2, a3, a4, -⟩ := am_okC_ok h1
  exact ⟨rfl, a1, a2, a3, a4, am_wd_ok h2, am_wd_ok h3, Nat.eq_of_beq_eq_true h4, Nat.eq_of_beq_eq_true h5⟩
theorem am_Ss_at {a : Nat} (h : am_has am_Ss a = true) : (.initialized (mY a).cls : Cond) ∈ am_tbl ∧ ((mY a).cls ≠ "java/lang/invoke/MethodHandle" ∧ (mY a).cls ≠ "java/lang/invoke/VarHandle" ∧ (parseMethodDescriptor (mY a).desc).map (fun d => d.parameters.length) = some (mN a)) ∧ mL a ≤ 21 ∧ a < 164 ∧ (.static (mY a) : Cond) ∈ am_tbl ∧ mC a = 0 ∧ mS a = 0 := by
  obtain ⟨q, rfl, hq⟩ := am_has_ok am_Ss_ok h
  simp only [am_okS, Bool.and_eq_true] at hq
  obtain ⟨⟨⟨h1, h2⟩, h4⟩, h5⟩ := hq
  obtain ⟨a1, a2, a3, a4, -⟩ := am_okC_ok h1
  exact ⟨a1, a2, a3, a4, am_wd_ok h2, Nat.eq_of_beq_eq_true h4, Nat.eq_of_beq_eq_true h5⟩
theorem am_Is_at {a : Nat} (h : am_has am_Is a = true) : (.initialized (mY a).cls : Cond) ∈ am_tbl ∧ ((mY a).cls ≠ "java/lang/invoke/MethodHandle" ∧ (mY a).cls ≠ "java/lang/invoke/VarHandle" ∧ (parseMethodDescriptor (mY a).desc).map (fun d => d.parameters.length) = some (mN a)) ∧ mL a ≤ 21 ∧ a < 164 ∧ (.instanceMethod (mY a) : Cond) ∈ am_tbl ∧ (mY a).name = "<init>" ∧ mR a = none := by
  obtain ⟨q, rfl, hq⟩ := am_has_ok am_Is_ok h
  simp only [am_okI, Bool.and_eq_true, decide_eq_true_eq] at hq
  obtain ⟨⟨⟨h1, h2⟩, h4⟩, h5⟩ := hq
  obtain ⟨a1, a2, a3, a4, -⟩ := am_okC_ok h1
  exact ⟨a1, a2, a3, a4, am_wd_ok h2, h4, h5⟩
theorem am_cf_ok {f d a : Nat} {av : List Value} {w : aW} {K : Option Value → aW → Prop} (h : am_cf f d a av w K) : ∃ d', d = d' + 1 ∧ am_Call d' a av w K := by
  unfold am_cf at h
  split at h
  · exact h.elim
  · rename_i d'
    refine ⟨d', rfl, ?_⟩
    split at h
    · refine am_Call.mono h ?_
      intro r w' hr
      split at hr
      · exact hr
      · exact hr.elim
    · refine am_Call.mono h ?_
      intro r w' hr
      split at hr
      · exact hr
      · exact hr.elim
section CALL
variable {p : Program} {l : Launch} {e : Env} {R : Room} {s : State} {m : MethodId} {args : Array Value} {below : List Frame} {meth : Method} {c : Code} {H : Heap} {locs : List Loc} {Q : State → Prop} {pc : Nat} {ls : Array Slot}
variable {D : va_G} {ty : Nat → ClassId} {base b t0 d k : Nat} {w : aW} {u : Nat × Nat} {Post : Option Value → aW → Prop} {rest : List Value}
theorem am_call_go {cells slots mc ms n : Nat} {st0 rest : List Value} {a : Array Value} (hr : va_Run p l e R s m args below meth c H locs cells slots mc ms (F0 m pc ls st0) rest (am_Q D ty base b t0 n Post a) (am_A base)) (hS : va_S (am_A base) s.heap H locs)
    (kk : ∀ (r : Option Value) (w' : aW) (H1 : Heap) (locs1 : List Loc), Post r w' → w'.1 = n → va_P D vwCl (am_ws base ty w') H1 → va_S (am_A base) s.heap H1 locs1 → W p l e R s m args below meth c H1 locs1 (cells + mc) (slots + ms) Q (F0 m (pc + 3) ls ((r.map (am_cv base b t0)).toList ++ rest))) :
    W p l e R s m args below meth c H locs cells slots Q (F0 m pc ls st0) := by
  intro T hT X
  obtain ⟨v, st₀, t, T', L, h0, X', hL, e1, e2, ⟨⟨r, w', hv, hp, hn, hb⟩, hz, hk⟩, st⟩ := hr T hT X
  cases hv
  rw [h0] at hz hk
  obtain ⟨t2, a1, b1⟩ := kk r w' T'.heap (locs ++ L) hp hn (by rw [e1]; exact hb)
    ⟨Nat.le_trans hS.1 (by rw [e1]; exact hz), fun q h1 h2 => by rw [e1, hk q (Nat.lt_of_lt_of_le h1 hS.1) h2]; exact hS.2.1 q h1 h2, fun q hq => by
      rcases List.mem_append.mp hq with h | h
      · exact hS.2.2 q h
      · exact hL q h⟩ T' rfl X'
  exact ⟨t2, st t2 a1, b1⟩
theorem am_pre {av : List Value} (hE : am_En D ty base t0 s s.heap) (hS : va_S (am_A base) s.heap H locs) (hP : va_P D vwCl (am_ws base ty w) H) (hz : H.size = base + w.1) : ∀ U : State, U.heap = H → s.WarmedH U.vm → va_Pc (av.map (am_cv base b t0)) (fun U => am_En D ty base t0 U U.heap ∧ va_P D vwCl (am_ws base ty w) U.heap ∧ U.heap.size = base + w.1) (av.map (am_cv base b t0)).toArray U :=
  fun U hU hW => ⟨rfl, hE.call hS hU hW, by rw [hU]; exact hP, by rw [hU]; exact hz⟩
theorem am_callV (hF : am_Fx (d + 1) k p R s m args meth c) (hE : am_En D ty base t0 s s.heap) {a i index : Nat} {av : List Value} (hlen : av.length = mN a) (hi : i < w.1) {bc : Nat} (hs : w.2.1 i = (0, bc)) (hbc : bc < 6) (hcl : (am_cls bc).1 = (mY a).cls)
    (hV : am_has am_Vs a = true) (hlk : (.methodLink (mY k).cls index (mY a) : Cond) ∈ am_tbl) (hC : am_Call d a (.ref i :: av) w Post) (hdg : decode (mB k) pc = .ok (.invokevirtual index, 3)) (hcs : am_cs rest ≤ 8)
    (hP : va_P D vwCl (am_ws base ty w) H) (hS : va_S (am_A base) s.heap H locs) (hz : H.size = base + w.1) (hu1 : u.1 ≤ mC k) (hu2 : u.2 ≤ mS k) (hl : ls.size = mL k)
    (kk : ∀ (r : Option Value) (w' : aW) (H1 : Heap) (locs1 : List Loc), Post r w' → w'.1 = w.1 → va_P D vwCl (am_ws base ty w') H1 → va_S (am_A base) s.heap H1 locs1 → W p l e R s m args below meth c H1 locs1 u.1 u.2 Q (F0 m (pc + 3) ls ((r.map (am_cv base b t0)).toList ++ rest.map (am_cv base b t0)))) :
    W p l e R s m args below meth c H locs u.1 u.2 Q (F0 m pc ls ((av.reverse ++ .ref i :: rest).map (am_cv base b t0))) := by
  obtain ⟨hx, hb, hml, hown, hts, ⟨hr1, hr2, hr3, hr4⟩, -⟩ := hF
  obtain ⟨-, g1, g2, g3, g4, g5, g6, g7, g8⟩ := am_Vs_at hV
  have hM := hC l D ty base b t0
  have hG : GoodIn am_tbl (wsV (mY k).cls index (mY a).cls (mY a) (am_mw a)) := by
    intro q hq
    rcases List.mem_append.mp hq with hq | hq
    · simp only [List.mem_cons, List.not_mem_nil, or_false] at hq
      rcases hq with rfl | rfl | rfl | rfl
      · exact ⟨hlk, am_tbl_good _ hlk⟩
      · exact ⟨g5, am_tbl_good _ g5⟩
      · exact ⟨g6, am_tbl_good _ g6⟩
      · exact ⟨g1, am_tbl_good _ g1⟩
    · exact am_goodIn g4 q hq
  have hrecv := va_recv (a := base + i) hE.1 hP (am_clC bc hbc) (by rw [am_ws_get hi, am_cell_ob hs])
  rw [hcl] at hrecv
  refine am_call_go (va_runV (C := (mY a).cls) (As := av.map (am_cv base b t0)) (rest := rest.map (am_cv base b t0)) ⟨hx, hb, hml, hown, hts⟩ hM (cwV (mN a) hts hG rfl rfl rfl ⟨rfl, g2⟩ ⟨hr1, ?_⟩) ⟨am_blind, hrecv, am_pre (av := .ref i :: av) hE hS hP hz⟩ rfl (by rw [List.length_map]; exact hlen) hl ?_ (lv_room ?_) hdg ⟨?_, ?_⟩) hS ?_
  · show 8 + (mL a + 11) + 40 * d ≤ R.locals
    omega
  · simp [am_cv]
  · rw [am_cs_map]; exact hcs
  · rw [g7]; omega
  · rw [g8]; omega
  · intro r w' H1 locs1 q1 q2 q3 q4
    rw [g7, g8]
    rw [g7] at q2
    exact kk r w' H1 locs1 q1 q2 q3 q4
theorem am_callS (hF : am_Fx (d + 1) k p R s m args meth c) (hE : am_En D ty base t0 s s.heap) {a index : Nat} {av : List Value} (hlen : av.length = mN a)
    (hV : am_has am_Ss a = true) (hlk : (.methodLink (mY k).cls index (mY a) : Cond) ∈ am_tbl ∨ (.methodLinkNest (mY k).cls index (mY a) "FaceRounds" : Cond) ∈ am_nest) (hC : am_Call d a av w Post) (hdg : decode (mB k) pc = .ok (.invokestatic index, 3)) (hcs : am_cs rest ≤ 8)
    (hP : va_P D vwCl (am_ws base ty w) H) (hS : va_S (am_A base) s.heap H locs) (hz : H.size = base + w.1) (hu1 : u.1 ≤ mC k) (hu2 : u.2 ≤ mS k) (hl : ls.size = mL k)
    (kk : ∀ (r : Option Value) (w' : aW) (H1 : Heap) (locs1 : List Loc), Post r w' → w'.1 = w.1 → va_P D vwCl (am_ws base ty w') H1 → va_S (am_A base) s.heap H1 locs1 → W p l e R s m args below meth c H1 locs1 u.1 u.2 Q (F0 m (pc + 3) ls ((r.map (am_cv base b t0)).toList ++ rest.map (am_cv base b t0)))) :
    W p l e R s m args below meth c H locs u.1 u.2 Q (F0 m pc ls ((av.reverse ++ rest).map (am_cv base b t0))) := by
  obtain ⟨hx, hb, hml, hown, hts, ⟨hr1, hr2, hr3, hr4⟩, -⟩ := hF
  obtain ⟨g1, g2, g3, g4, g5, g7, g8⟩ := am_Ss_at hV
  have hM := hC l D ty base b t0
  have hroom : 8 + (mL a + 11) + (am_rm d a).locals ≤ R.locals := by
    show 8 + (mL a + 11) + 40 * d ≤ R.locals
    omega
  have hstk : (F0 m pc ls ((av.reverse ++ rest).map (am_cv base b t0))).stack = (av.map (am_cv base b t0)).reverse ++ rest.map (am_cv base b t0) := by simp
  have hrm8 : ((rest.map (am_cv base b t0)).map fun v => v.category).sum ≤ 8 := by rw [am_cs_map]; exact hcs
  have hcap : u.1 + mC a ≤ R.cells ∧ u.2 + mS a ≤ R.slots := by rw [g7, g8]; omega
  have kk' : ∀ (r : Option Value) (w' : aW) (H1 : Heap) (locs1 : List Loc), Post r w' → w'.1 = w.1 + mC a → va_P D vwCl (am_ws base ty w') H1 → va_S (am_A base) s.heap H1 locs1 → W p l e R s m args below meth c H1 locs1 (u.1 + mC a) (u.2 + mS a) Q (F0 m (pc + 3) ls ((r.map (am_cv base b t0)).toList ++ rest.map (am_cv base b t0))) := by
    intro r w' H1 locs1 q1 q2 q3 q4
    rw [g7, g8]
    rw [g7] at q2
    exact kk r w' H1 locs1 q1 q2 q3 q4
  rcases hlk with hlk | hlk
  · have hG : GoodIn am_tbl (va_wsS (mY k).cls index (mY a) (am_mw a)) := by
      intro q hq
      rcases List.mem_append.mp hq with hq | hq
      · simp only [List.mem_cons, List.not_mem_nil, or_false] at hq
        rcases hq with rfl | rfl | rfl
        · exact ⟨hlk, am_tbl_good _ hlk⟩
        · exact ⟨g5, am_tbl_good _ g5⟩
        · exact ⟨g1, am_tbl_good _ g1⟩
      · exact am_goodIn g4 q hq
    exact am_call_go (va_runS (As := av.map (am_cv base b t0)) (rest := rest.map (am_cv base b t0)) ⟨hx, hb, hml, hown, hts⟩ hM (va_cwS (mN a) hts hG rfl rfl rfl g2 ⟨hr1, hroom⟩) ⟨am_blind, am_pre (av := av) hE hS hP hz⟩ rfl (by rw [List.length_map]; exact hlen) hl hstk (lv_room hrm8) hdg hcap) hS kk'
  · exact am_call_go (va_runSN (As := av.map (am_cv base b t0)) (rest := rest.map (am_cv base b t0)) ⟨hx, hb, hml, hown, hts⟩ hM ⟨va_cnB (mN a) hts (am_goodIn g4) rfl rfl rfl (hE.2.2.2.1 _ hlk) (hts _ g1) g2 ⟨hr1, hroom⟩, hts _ g5, trivial⟩ ⟨am_blind, am_pre (av := av) hE hS hP hz⟩ rfl (by rw [List.length_map]; exact hlen) hl hstk (lv_room hrm8) hdg hcap) hS kk'
theorem am_callI (hF : am_Fx (d + 1) k p R s m args meth c) (hE : am_En D ty base t0 s s.heap) {a i index : Nat} {av : List Value} (hlen : av.length = mN a)
    (hV : am_has am_Is a = true) (hlk : (.methodLink (mY k).cls index (mY a) : Cond) ∈ am_tbl ∨ (.methodLinkNest (mY k).cls index (mY a) "FaceRounds" : Cond) ∈ am_nest) (hC : am_Call d a (.ref i :: av) w Post) (hdg : decode (mB k) pc = .ok (.invokespecial index, 3)) (hcs : am_cs rest ≤ 8)
    (hP : va_P D vwCl (am_ws base ty w) H) (hS : va_S (am_A base) s.heap H locs) (hz : H.size = base + w.1) (hu1 : u.1 + mC a ≤ mC k) (hu2 : u.2 + mS a ≤ mS k) (hl : ls.size = mL k)
    (kk : ∀ (r : Option Value) (w' : aW) (H1 : Heap) (locs1 : List Loc), Post r w' → w'.1 = w.1 + mC a → va_P D vwCl (am_ws base ty w') H1 → va_S (am_A base) s.heap H1 locs1 → W p l e R s m args below meth c H1 locs1 (u.1 + mC a) (u.2 + mS a) Q (F0 m (pc + 3) ls ((r.map (am_cv base b t0)).toList ++ rest.map (am_cv base b t0)))) :
    W p l e R s m args below meth c H locs u.1 u.2 Q (F0 m pc ls ((av.reverse ++ .ref i :: rest).map (am_cv base b t0))) := by
  obtain ⟨hx, hb, hml, hown, hts, ⟨hr1, hr2, hr3, hr4⟩, -⟩ := hF
  obtain ⟨g1, g2, g3, g4, g5, g6, g7⟩ := am_Is_at hV
  have hM := hC l D ty base b t0
  have hroom : 8 + (mL a + 11) + (am_rm d a).locals ≤ R.locals := by
    show 8 + (mL a + 11) + 40 * d ≤ R.locals
    omega
  have hstk : (F0 m pc ls ((av.reverse ++ .ref i :: rest).map (am_cv base b t0))).stack = (av.map (am_cv base b t0)).reverse ++ .ref (base + i) :: rest.map (am_cv base b t0) := by simp [am_cv]
  have hrm8 : ((rest.map (am_cv base b t0)).map fun v => v.category).sum ≤ 8 := by rw [am_cs_map]; exact hcs
  have hcap : u.1 + mC a ≤ R.cells ∧ u.2 + mS a ≤ R.slots := by omega
  have hw : am_mw a = Cond.code (mY a) (mB a) (mL a) none :: am_tbl := by unfold am_mw; rw [g7]
  rcases hlk with hlk | hlk
  · exact am_call_go (va_runI (As := av.map (am_cv base b t0)) (rest := rest.map (am_cv base b t0)) ⟨hx, hb, hml, hown, hts⟩ hM (cwI (mN a) hts (am_goodIn g4) hw rfl rfl (hts _ g1) (hts _ hlk) (hts _ g5) g6 g2 ⟨hr1, hroom⟩) ⟨am_blind, am_pre (av := .ref i :: av) hE hS hP hz⟩ rfl (by rw [List.length_map]; exact hlen) hl hstk (lv_room hrm8) hdg hcap) hS kk
  · exact am_call_go (va_runIN (As := av.map (am_cv base b t0)) (rest := rest.map (am_cv base b t0)) ⟨hx, hb, hml, hown, hts⟩ hM ⟨va_cnB (mN a) hts (am_goodIn g4) hw rfl rfl (hE.2.2.2.1 _ hlk) (hts _ g1) g2 ⟨hr1, hroom⟩, g6, hts _ g5⟩ ⟨am_blind, am_pre (av := .ref i :: av) hE hS hP hz⟩ rfl (by rw [List.length_map]; exact hlen) hl hstk (lv_room hrm8) hdg hcap) hS kk
end CALL
end
section
set_option maxHeartbeats 4000000 in
set_option maxRecDepth 100000 in
/-- ONE STEP OF THE SMALL MACHINE IS THE MACHINE'S -/
theorem am_stp_ok {d k : Nat} {sx : Option (Nat × (Nat → Int32))} {Post : Option Value → aW → Prop} {x : aI} {lc : aL} {st : List Value} {w : aW} {u : Nat × Nat} {K : aK}
    (hck : am_ck k x = true) (h : am_stp d sx (mC k, mS k) x lc st w u K Post) (hK : ∀ pc' lc' st' w' u', K pc' lc' st' w' u' → am_At d k sx Post pc' lc' st' w' u') : am_At d k sx Post x.1 lc st w u := by
  intro p l e R s m args below meth c D ty base b t0 Q hF hE hX hbase hret H locs ls hsz hu1 hu2 hP hS hln hl
  have go : ∀ {pc' : Nat} {lc' : aL} {st' : List Value} {w' : aW} {u' : Nat × Nat} (H : Heap) (locs : List Loc) (ls : Array Slot), K pc' lc' st' w' u' → s.heap.size + u'.1 = base + w'.1 → u'.1 ≤ mC k → u'.2 ≤ mS k → va_P D vwCl (am_ws base ty w') H → va_S (am_A base) s.heap H locs → lc'.length = mL k → lv_has ls (mL k) (am_al (am_cv base b t0) 0 lc') →
      W p l e R s m args below meth c H locs u'.1 u'.2 Q (F0 m pc' ls (st'.map (am_cv base b t0))) := fun H locs ls hk => hK _ _ _ _ _ hk p l e R s m args below meth c D ty base b t0 Q hF hE hX hbase hret H locs ls
  have go1 : ∀ {pc' : Nat} {st' : List Value}, K pc' lc st' w u → W p l e R s m args below meth c H locs u.1 u.2 Q (F0 m pc' ls (st'.map (am_cv base b t0))) := fun hk => go H locs ls hk hsz hu1 hu2 hP hS hln hl
  have go2 : ∀ {pc' : Nat} {lc' : aL} {st' : List Value} (ls' : Array Slot), K pc' lc' st' w u → lc'.length = mL k → lv_has ls' (mL k) (am_al (am_cv base b t0) 0 lc') → W p l e R s m args below meth c H locs u.1 u.2 Q (F0 m pc' ls' (st'.map (am_cv base b t0))) := fun ls' hk => go H locs ls' hk hsz hu1 hu2 hP hS
  have go3 : ∀ {pc' : Nat} {st' : List Value} {w' : aW} (H1 : Heap) (locs1 : List Loc), K pc' lc st' w' u → w'.1 = w.1 → va_P D vwCl (am_ws base ty w') H1 → va_S (am_A base) s.heap H1 locs1 → W p l e R s m args below meth c H1 locs1 u.1 u.2 Q (F0 m pc' ls (st'.map (am_cv base b t0))) := fun H1 locs1 hk hw h1 h2 => go H1 locs1 ls hk (by rw [hw]; exact hsz) hu1 hu2 h1 h2 hln hl
  obtain ⟨hx, hb, hml, hown, hts, ⟨hr1, hr2, hr3, hr4⟩, hin⟩ := id hF
  obtain ⟨hKK, hZ, hT, hN, hAO⟩ := id hE
  obtain ⟨hdg, hc⟩ := am_ck_ok hck
  have hA : ∀ q, s.heap.size ≤ q → am_A base q := fun q hq => Nat.le_trans hbase hq
  have hD := am_ws_D base ty w
  have hHz : base + w.1 ≤ H.size := am_ws_size hP (Nat.le_trans hbase hS.1)
  obtain ⟨pc, ins, len, a, b', c', f, v, lg, sw⟩ := x
  cases ins with
  | iconst n => exact lv_iconst hx hb hdg (of_decide_eq_true hc) (go1 h)
  | bipush n => exact lv_bipush hx hb hdg (of_decide_eq_true hc) (go1 h)
  | sipush n => exact lv_sipush hx hb hdg (of_decide_eq_true hc) (go1 h)
  | ldc n => exact lv_ldc hx hb hown (hts _ (am_wd_ok hc)) hdg (go1 h)
  | ldc_w n => exact lv_ldcw hx hb hown (hts _ (am_wd_ok hc)) hdg (go1 h)
  | ldc2_w n => exact lv_ldc2 hx hb hown (hts _ (am_wd_ok hc)) hdg (go1 h)
  | iload_n j =>
    obtain ⟨y, hy, hk⟩ := am_gi_ok h
    exact lv_iload_n hx hb hdg rfl (am_rd hl hy) (go1 hk)
  | iload j =>
    obtain ⟨y, hy, hk⟩ := am_gi_ok h
    exact lv_iload hx hb hdg (am_rd hl hy) (go1 hk)
  | lload_n j =>
    obtain ⟨y, hy, hk⟩ := am_gl_ok h
    exact lv_lload_n hx hb hdg rfl (am_rd hl hy) (go1 hk)
  | lload j =>
    obtain ⟨y, hy, hk⟩ := am_gl_ok h
    exact lv_lload hx hb hdg (am_rd hl hy) (go1 hk)
  | aload_n j =>
    dsimp only [am_stp] at h
    obtain ⟨y, hy, hj, hk⟩ := am_ga_ok h
    rcases hj with ⟨q, rfl⟩ | ⟨q, rfl⟩
    · exact lv_aload_n hx hb hdg rfl (am_rd hl hy) (go1 hk)
    · cases q with
      | zero => exact lv_aload_n hx hb hdg rfl (am_rd hl hy) (go1 hk)
      | succ q => exact lv_aload_n hx hb hdg rfl (am_rd hl hy) (go1 hk)
  | aload j =>
    dsimp only [am_stp] at h
    obtain ⟨y, hy, hj, hk⟩ := am_ga_ok h
    rcases hj with ⟨q, rfl⟩ | ⟨q, rfl⟩
    · exact lv_aload hx hb hdg (am_rd hl hy) (go1 hk)
    · cases q with
      | zero => exact lv_aload hx hb hdg (am_rd hl hy) (go1 hk)
      | succ q => exact lv_aload hx hb hdg (am_rd hl hy) (go1 hk)
  | istore_n j =>
    dsimp only [am_stp] at h
    obtain ⟨y, r, hst, h0⟩ := am_i_ok h
    clear h
    have h := h0
    clear h0
    subst hst
    obtain ⟨hnl, hk⟩ := am_sv_ok h
    exact lv_istore_n hx hb hdg rfl hl (by simpa [am_ck3] using hc) rfl (fun ls' h' => go2 ls' hk (by rw [am_up_len]; exact hln) (am_wr1 (v := .int y) hnl h'))
  | istore j =>
    dsimp only [am_stp] at h
    obtain ⟨y, r, hst, h0⟩ := am_i_ok h
    clear h
    have h := h0
    clear h0
    subst hst
    obtain ⟨hnl, hk⟩ := am_sv_ok h
    exact lv_istore hx hb hdg hl (by simpa [am_ck3] using hc) rfl (fun ls' h' => go2 ls' hk (by rw [am_up_len]; exact hln) (am_wr1 (v := .int y) hnl h'))
  | lstore_n j =>
    dsimp only [am_stp] at h
    obtain ⟨y, r, hst, h0⟩ := am_l_ok h
    clear h
    have h := h0
    clear h0
    subst hst
    obtain ⟨hnl, hk⟩ := am_sl_ok h
    exact lv_lstore_n hx hb hdg rfl hl (by simpa [am_ck3] using hc) rfl (fun ls' h' => go2 ls' hk (by rw [am_up_len, am_up_len]; exact hln) (am_wr2 hnl h'))
  | lstore j =>
    dsimp only [am_stp] at h
    obtain ⟨y, r, hst, h0⟩ := am_l_ok h
    clear h
    have h := h0
    clear h0
    subst hst
    obtain ⟨hnl, hk⟩ := am_sl_ok h
    exact lv_lstore hx hb hdg hl (by simpa [am_ck3] using hc) rfl (fun ls' h' => go2 ls' hk (by rw [am_up_len, am_up_len]; exact hln) (am_wr2 hnl h'))
  | astore_n j =>
    dsimp only [am_stp] at h
    obtain ⟨y, r, hst, hj, h0⟩ := am_a_ok h
    clear h
    have h := h0
    clear h0
    subst hst
    obtain ⟨hnl, hk⟩ := am_sv_ok h
    rcases hj with ⟨q, rfl⟩ | ⟨q, rfl⟩
    · exact lv_astore_n hx hb hdg rfl hl (by simpa [am_ck3] using hc) rfl (fun ls' h' => go2 ls' hk (by rw [am_up_len]; exact hln) (am_wr1 (v := .ref q) hnl h'))
    · cases q with
      | zero => exact lv_astore_n hx hb hdg rfl hl (by simpa [am_ck3] using hc) rfl (fun ls' h' => go2 ls' hk (by rw [am_up_len]; exact hln) (am_wr1 (v := .retAddr 0) hnl h'))
      | succ q => exact lv_astore_n hx hb hdg rfl hl (by simpa [am_ck3] using hc) rfl (fun ls' h' => go2 ls' hk (by rw [am_up_len]; exact hln) (am_wr1 (v := .retAddr (q + 1)) hnl h'))
  | astore j =>
    dsimp only [am_stp] at h
    obtain ⟨y, r, hst, hj, h0⟩ := am_a_ok h
    clear h
    have h := h0
    clear h0
    subst hst
    obtain ⟨hnl, hk⟩ := am_sv_ok h
    rcases hj with ⟨q, rfl⟩ | ⟨q, rfl⟩
    · exact lv_astore hx hb hdg hl (by simpa [am_ck3] using hc) rfl (fun ls' h' => go2 ls' hk (by rw [am_up_len]; exact hln) (am_wr1 (v := .ref q) hnl h'))
    · cases q with
      | zero => exact lv_astore hx hb hdg hl (by simpa [am_ck3] using hc) rfl (fun ls' h' => go2 ls' hk (by rw [am_up_len]; exact hln) (am_wr1 (v := .retAddr 0) hnl h'))
      | succ q => exact lv_astore hx hb hdg hl (by simpa [am_ck3] using hc) rfl (fun ls' h' => go2 ls' hk (by rw [am_up_len]; exact hln) (am_wr1 (v := .retAddr (q + 1)) hnl h'))
  | iinc j n =>
    dsimp only [am_stp] at h
    obtain ⟨y, hy, h⟩ := am_gi_ok h
    obtain ⟨hnl, hk⟩ := am_sv_ok h
    obtain ⟨kk, hkk⟩ := List.getElem?_of_mem (am_al_of (f := am_cv base b t0) (i := 0) hy)
    rw [Nat.zero_add] at hkk
    simp only [am_ck3, Bool.and_eq_true, decide_eq_true_eq] at hc
    refine lv_iinc (x := y) (v := y + v) hx hb hdg hl (k := kk) hkk (by rw [hc.2]) (by simpa using hc.1) rfl (fun ls' h' => go2 ls' hk (by rw [am_up_len]; exact hln) (am_wr1 (v := .int (y + v)) hnl h'))
  | iadd =>
    obtain ⟨y, z, r, rfl, hk⟩ := am_ii_ok h
    exact lv_iadd hx hb hdg (go1 hk)
  | isub =>
    obtain ⟨y, z, r, rfl, hk⟩ := am_ii_ok h
    exact lv_isub hx hb hdg (go1 hk)
  | imul =>
    obtain ⟨y, z, r, rfl, hk⟩ := am_ii_ok h
    exact lv_imul hx hb hdg (go1 hk)
  | iand =>
    obtain ⟨y, z, r, rfl, hk⟩ := am_ii_ok h
    exact lv_iand hx hb hdg (go1 hk)
  | ior =>
    obtain ⟨y, z, r, rfl, hk⟩ := am_ii_ok h
    exact lv_ior hx hb hdg (go1 hk)
  | ixor =>
    obtain ⟨y, z, r, rfl, hk⟩ := am_ii_ok h
    exact lv_ixor hx hb hdg (go1 hk)
  | ishl =>
    obtain ⟨y, z, r, rfl, hk⟩ := am_ii_ok h
    exact lv_ishl hx hb hdg (go1 hk)
  | ishr =>
    obtain ⟨y, z, r, rfl, hk⟩ := am_ii_ok h
    exact lv_ishr hx hb hdg (go1 hk)
  | iushr =>
    obtain ⟨y, z, r, rfl, hk⟩ := am_ii_ok h
    exact lv_iushr hx hb hdg rfl (go1 hk)
  | idiv =>
    obtain ⟨y, z, r, rfl, hne, hk⟩ := am_ii_ok h
    exact lv_idiv hx hb hdg hne (go1 hk)
  | irem =>
    obtain ⟨y, z, r, rfl, hne, hk⟩ := am_ii_ok h
    exact lv_irem hx hb hdg hne (go1 hk)
  | ineg =>
    obtain ⟨y, r, rfl, hk⟩ := am_i_ok h
    exact lv_ineg hx hb hdg (go1 hk)
  | lmul =>
    obtain ⟨y, z, r, rfl, hk⟩ := am_ll_ok h
    exact lv_lmul hx hb hdg (go1 hk)
  | ldiv =>
    obtain ⟨y, z, r, rfl, hne, hk⟩ := am_ll_ok h
    exact lv_ldiv hx hb hdg hne (go1 hk)
  | i2l =>
    obtain ⟨y, r, rfl, hk⟩ := am_i_ok h
    exact lv_i2l hx hb hdg rfl (go1 hk)
  | l2i =>
    obtain ⟨y, r, rfl, hk⟩ := am_l_ok h
    exact lv_l2i hx hb hdg rfl (go1 hk)
  | i2c =>
    obtain ⟨y, r, rfl, hk⟩ := am_i_ok h
    exact lv_i2c hx hb hdg rfl (go1 hk)
  | dup =>
    dsimp only [am_stp] at h
    split at h
    · rename_i y r
      split at h
      · rename_i hy
        refine lv_dup hx hb hdg ?_ (go1 h)
        rw [am_cv_cat]
        cases y <;> first | rfl | cases hy
      · exact h.elim
    · exact h.elim
  | dup2 =>
    dsimp only [am_stp] at h
    split at h
    · rename_i y z r
      split at h
      · rename_i hy
        rw [Bool.and_eq_true] at hy
        refine lv_dup2_11 hx hb hdg ?_ ?_ (go1 h)
        · rw [am_cv_cat]
          have := hy.1
          cases y <;> first | rfl | cases this
        · rw [am_cv_cat]
          have := hy.2
          cases z <;> first | rfl | cases this
      · exact h.elim
    · exact h.elim
  | ifCond cc off =>
    obtain ⟨y, r, hst, h0⟩ := am_i_ok h
    clear h
    have h := h0
    clear h0
    subst hst
    have ht := of_decide_eq_true hc
    cases cc with
    | eq => exact lv_if_eq hx hb hdg ht (fun q => go1 (h.1 q)) (fun q => go1 (h.2 q))
    | ne => exact lv_if_ne hx hb hdg ht (fun q => go1 (h.1 q)) (fun q => go1 (h.2 q))
    | lt => exact lv_if_lt hx hb hdg ht (fun q => go1 (h.1 q)) (fun q => go1 (h.2 q))
    | ge => exact lv_if_ge hx hb hdg ht (fun q => go1 (h.1 q)) (fun q => go1 (h.2 q))
    | gt => exact lv_if_gt hx hb hdg ht (fun q => go1 (h.1 q)) (fun q => go1 (h.2 q))
    | le => exact lv_if_le hx hb hdg ht (fun q => go1 (h.1 q)) (fun q => go1 (h.2 q))
  | if_icmp cc off =>
    obtain ⟨y, z, r, hst, h0⟩ := am_ii_ok h
    clear h
    have h := h0
    clear h0
    subst hst
    have ht := of_decide_eq_true hc
    cases cc with
    | eq => exact lv_icmp_eq hx hb hdg ht (fun q => go1 (h.1 q)) (fun q => go1 (h.2 q))
    | ne => exact lv_icmp_ne hx hb hdg ht (fun q => go1 (h.1 q)) (fun q => go1 (h.2 q))
    | lt => exact lv_icmp_lt hx hb hdg ht (fun q => go1 (h.1 q)) (fun q => go1 (h.2 q))
    | ge => exact lv_icmp_ge hx hb hdg ht (fun q => go1 (h.1 q)) (fun q => go1 (h.2 q))
    | gt => exact lv_icmp_gt hx hb hdg ht (fun q => go1 (h.1 q)) (fun q => go1 (h.2 q))
    | le => exact lv_icmp_le hx hb hdg ht (fun q => go1 (h.1 q)) (fun q => go1 (h.2 q))
  | goto off => exact lv_goto hx hb hdg (of_decide_eq_true hc) (go1 h)
  | tableswitch dd lo hi offs =>
    obtain ⟨y, r, hst, h0⟩ := am_i_ok h
    clear h
    have h := h0
    clear h0
    subst hst
    simp only [am_ck3, Bool.and_eq_true, decide_eq_true_eq] at hc
    obtain ⟨⟨h1, h2⟩, h3⟩ := hc
    rcases am_tsw_ok sw 0 h3 h with ⟨i, t, o, a1, a2, a3, a4, a5⟩ | ⟨a1, a2⟩
    · rw [Nat.zero_add] at a2 a3
      exact lv_tableIn hx hb hdg (by omega) (by omega) (by rw [show (y.toInt - lo).toNat = i by omega]; exact a3) a4 (go1 a5)
    · refine lv_tableOut hx hb hdg ?_ h1 (go1 a2)
      by_cases hlo : y.toInt < lo
      · exact Or.inl hlo
      · right
        apply Int.not_le.mp
        intro hhi
        refine a1 (y.toInt - lo).toNat (by omega) ?_
        rw [Nat.zero_add]
        omega
  | lookupswitch dd ps =>
    obtain ⟨y, r, hst, h0⟩ := am_i_ok h
    clear h
    have h := h0
    clear h0
    subst hst
    simp only [am_ck3, Bool.and_eq_true, decide_eq_true_eq] at hc
    obtain ⟨⟨h1, h2⟩, h3⟩ := hc
    have h2' : (ps.toList.zip (ps.toList.drop 1)).all (fun (a, next) => a.1 < next.1) = true := h2
    rcases am_lsw_ok (dflt := dd) ps.toList sw h3 h with ⟨t, a1, a2⟩ | ⟨a1, a2⟩
    · exact lv_lookup hx hb hdg h2' rfl a1 (go1 a2)
    · exact lv_lookup hx hb hdg h2' rfl (by rw [a1]; exact h1) (go1 a2)
  | getfield n =>
    dsimp only [am_stp] at h
    split at h
    · rename_i i r
      obtain ⟨hi, hs, h⟩ := am_ob_ok h
      simp only [am_ck3, am_ckf, Bool.and_eq_true, decide_eq_true_eq] at hc
      obtain ⟨⟨⟨⟨h1, h2⟩, h3⟩, h4⟩, h5⟩ := hc
      have ha : a < 6 := by simpa using h1
      have hbN : b' < (am_cls a).2.2 := by simpa using h2
      have hg := am_fl_get (am_fv base w i) (am_fk a) 0 b' _ h5
      rw [Nat.zero_add] at hg
      refine va_get hx hb hts (am_inC a ha) hown hKK hP i (by rw [am_ws_get hi, am_cell_ob hs]) (am_clC a ha) b' hbN (hts _ (am_wd_ok h3)) (fun _ z => z) hg hdg ?_
      split at h
      · split at h
        · rename_i j hj
          have e : am_fv base w i b' (Nat.beq 1 1) = .ref (base + j) := by
            show va_rf ((w.2.2.2 i b').map (base + ·)) = _
            rw [hj]
            rfl
          rw [e]
          exact go1 h
        · exact h.elim
      · rename_i hf
        have e : am_fv base w i b' (Nat.beq f 1) = .int (w.2.2.1 i b') := by
          have : Nat.beq f 1 = false := by
            cases hbq : Nat.beq f 1 with
            | false => rfl
            | true => exact absurd (Nat.eq_of_beq_eq_true hbq) hf
          rw [this]
          rfl
        rw [e]
        exact go1 h
    · exact h.elim
  | putfield n =>
    simp only [am_ck3, am_ckf, Bool.and_eq_true, decide_eq_true_eq] at hc
    obtain ⟨⟨⟨⟨⟨h1, h2⟩, h3⟩, h4⟩, h5⟩, h6⟩ := hc
    have ha : a < 6 := by simpa using h1
    have hbN : b' < (am_cls a).2.2 := by simpa using h2
    have key : ∀ (i : Nat) (r : List Value) (ty0 : FieldType) (vv : Value), i < w.1 → w.2.1 i = (0, a) → parseFieldDescriptor ((am_cls a).2.1 b').2.2.1 = some ty0 → narrow ty0 vv = vv → fits ty0 vv = true →
        (∀ (H1 : Heap) (locs1 : List Loc), va_P D vwCl ((am_ws base ty w).set i (base + i, .inr (a, (am_fl (am_fv base w i) 0 (am_fk a)).set b' vv))) H1 → va_S (am_A base) s.heap H1 locs1 → W p l e R s m args below meth c H1 locs1 u.1 u.2 Q (F0 m (pc + 3) ls r)) →
        W p l e R s m args below meth c H locs u.1 u.2 Q (F0 m pc ls (vv :: .ref (base + i) :: r)) := by
      intro i r ty0 vv hi hs hp hn hf kk
      have hlen : b' < (am_fl (am_fv base w i) 0 (am_fk a)).length := by
        rw [am_fl_len]
        exact (List.getElem?_eq_some_iff.mp h5).1
      cases hfin : ((am_cls a).2.1 b').2.2.2 with
      | false => exact va_put hx hb hts (am_inC a ha) (am_tyC a) (am_tyC_ok a ha) (am_nmC a ha) hown hKK hP hD hS i (by rw [am_ws_get hi, am_cell_ob hs]) (am_clC a ha) b' hbN (hts _ (am_wd_ok h3)) (fun _ z => z) hfin hp hn hf hlen hdg (fun H1 locs1 q1 _ q3 => kk H1 locs1 q1 q3)
      | true =>
        simp only [am_fin, hfin, Bool.not_true, Bool.false_or, Bool.and_eq_true, decide_eq_true_eq] at h6
        exact va_putF hx hb hts (am_inC a ha) (am_tyC a) (am_tyC_ok a ha) (am_nmC a ha) hown hKK hP hD hS i (by rw [am_ws_get hi, am_cell_ob hs]) (am_clC a ha) b' hbN (hts _ (am_wd_ok h3)) (fun _ z => z) hfin (hin h6.1) h6.2 hp hn hf hlen hdg (fun H1 locs1 q1 _ q3 => kk H1 locs1 q1 q3)
    dsimp only [am_stp] at h
    split at h
    · rename_i y i r
      obtain ⟨hi, hs, h⟩ := am_ob_ok h
      unfold am_fty at h4
      split at h4
      · rename_i hp
        exact key i _ .int (.int y) hi hs hp rfl rfl (fun H1 locs1 q1 q3 => go3 H1 locs1 h rfl (by rw [← am_putC hi hs h5]; exact q1) q3)
      · rename_i hf _; cases hf
      · rename_i hf _; cases hf
      · rename_i hf _; cases hf
      · cases h4
    · rename_i j i r
      obtain ⟨hi, hs, h⟩ := am_ob_ok h
      unfold am_fty at h4
      split at h4
      · rename_i hf _; cases hf
      · rename_i C _ hp
        exact key i _ (.object C) (.ref (base + j)) hi hs hp rfl rfl (fun H1 locs1 q1 q3 => go3 H1 locs1 h rfl (by rw [← am_putF hi hs h5]; exact q1) q3)
      · rename_i C _ hp
        exact key i _ (.array C) (.ref (base + j)) hi hs hp rfl rfl (fun H1 locs1 q1 q3 => go3 H1 locs1 h rfl (by rw [← am_putF hi hs h5]; exact q1) q3)
      · rename_i hf _; cases hf
      · cases h4
    · rename_i y i r
      obtain ⟨hi, hs, hy, h⟩ := am_ob_ok h
      unfold am_fty at h4
      split at h4
      · rename_i hf _; cases hf
      · rename_i hf _; cases hf
      · rename_i hf _; cases hf
      · rename_i hp
        exact key i _ .boolean (.int y) hi hs hp (by rcases hy with rfl | rfl <;> rfl) (by rcases hy with rfl | rfl <;> rfl) (fun H1 locs1 q1 q3 => go3 H1 locs1 h rfl (by rw [← am_putC hi hs h5]; exact q1) q3)
      · cases h4
    · exact h.elim
  | getstatic n => exact va_gets hx hb hZ hS hown (hts _ (am_wd_ok hc)) (fun _ z => z) hdg (go1 h)
  | arraylength =>
    dsimp only [am_stp] at h
    split at h
    · rename_i i r
      obtain ⟨t, n, hi, hs, ht, h⟩ := am_alen_ok h
      by_cases h3 : t = 3
      · subst h3
        exact va_alen hx hb hKK hP i 3 (x := (n, .inr (.inr (.inr (.inr (fun j => (w.2.2.2 i j).map (base + ·))))))) (by rw [am_ws_get hi, am_cell_aq hs]) rfl rfl hdg (go1 h)
      · have htt : (am_tys ty)[t]? = some (ty t, am_at t) := by
          have : t = 0 ∨ t = 1 ∨ t = 2 := by omega
          rcases this with e | e | e <;> subst e <;> rfl
        exact va_alen hx hb hKK hP i t (x := (n, .inl (w.2.2.1 i))) (by rw [am_ws_get hi, am_cell_ar hs h3]) htt rfl hdg (go1 h)
    · rename_i r
      cases sx with
      | none => exact h.elim
      | some q =>
        obtain ⟨g1, g2, g3⟩ := hX
        exact va_slen hx hb g1 g2 (Nat.not_le.mpr g3) hS hdg (go1 h)
    · exact h.elim
  | iaload =>
    dsimp only [am_stp] at h
    split at h
    · rename_i i q r
      obtain ⟨n, hi, hs, hv, h⟩ := am_ar_ok h
      exact va_iald hx hb hKK hP q 1 (by rw [am_ws_get hi, am_cell_ar hs (by decide)]) rfl hv hdg (go1 h)
    · rename_i i r
      cases sx with
      | none => exact h.elim
      | some q =>
        obtain ⟨g1, g2, g3⟩ := hX
        exact va_sld hx hb g1 g2 (Nat.not_le.mpr g3) hS h.1 hdg (go1 h.2)
    · rename_i i r
      exact va_ti hx hb hT hS h.1 rfl hdg (go1 h.2)
    · exact h.elim
  | caload =>
    dsimp only [am_stp] at h
    split at h
    · rename_i i q r
      obtain ⟨n, hi, hs, hv, h⟩ := am_ar_ok h
      exact va_cald hx hb hKK hP q 0 (by rw [am_ws_get hi, am_cell_ar hs (by decide)]) rfl hv hdg (go1 h)
    · exact h.elim
  | baload =>
    dsimp only [am_stp] at h
    split at h
    · rename_i i q r
      obtain ⟨n, hi, hs, hv, h⟩ := am_ar_ok h
      exact va_zald hx hb hKK hP q 2 (by rw [am_ws_get hi, am_cell_ar hs (by decide)]) rfl hv hdg (go1 h)
    · exact h.elim
  | aaload =>
    dsimp only [am_stp] at h
    split at h
    · rename_i i q r
      obtain ⟨n, hi, hs, hv, j, hj, h⟩ := am_ar_ok h
      refine va_aldq hx hb hKK hP q 3 (by rw [am_ws_get hi, am_cell_aq hs]) rfl hv hdg ?_
      have e : va_rf ((w.2.2.2 q i.toNatClampNeg).map (base + ·)) = .ref (base + j) := by
        rw [hj]
        rfl
      rw [e]
      exact go1 h
    · exact h.elim
  | iastore =>
    dsimp only [am_stp] at h
    split at h
    · rename_i y i q r
      obtain ⟨n, hi, hs, hv, h⟩ := am_ar_ok h
      exact va_iast hx hb hKK hP hD hS q 1 (by rw [am_ws_get hi, am_cell_ar hs (by decide)]) rfl hv hdg (fun H1 locs1 q1 _ q3 => go3 H1 locs1 h rfl (by rw [← am_putA hi hs (by decide)]; exact q1) q3)
    · exact h.elim
  | castore =>
    dsimp only [am_stp] at h
    split at h
    · rename_i y i q r
      obtain ⟨n, hi, hs, hv, h⟩ := am_ar_ok h
      exact va_cast hx hb hKK hP hD hS q 0 (by rw [am_ws_get hi, am_cell_ar hs (by decide)]) rfl hv hdg (fun H1 locs1 q1 _ q3 => go3 H1 locs1 h rfl (by rw [← am_putA hi hs (by decide)]; exact q1) q3)
    · exact h.elim
  | bastore =>
    dsimp only [am_stp] at h
    split at h
    · rename_i y i q r
      obtain ⟨n, hi, hs, hv, h⟩ := am_ar_ok h
      exact va_zast hx hb hKK hP hD hS q 2 (by rw [am_ws_get hi, am_cell_ar hs (by decide)]) rfl hv hdg (fun H1 locs1 q1 _ q3 => go3 H1 locs1 h rfl (by rw [← am_putA hi hs (by decide)]; exact q1) q3)
    · exact h.elim
  | aastore =>
    dsimp only [am_stp] at h
    split at h
    · rename_i j i q r
      obtain ⟨n, hi, hs, hv, h⟩ := am_ar_ok h
      obtain ⟨hj, hjs, h⟩ := am_ob_ok h
      exact va_astq hx hb hKK hP hD hS q 3 j 3 (r := am_cls 3) (by rw [am_ws_get hi, am_cell_aq hs]) rfl (by rw [am_ws_get hj, am_cell_ob hjs]) rfl hv hdg (fun H1 locs1 q1 _ q3 => go3 H1 locs1 h rfl (by rw [← am_putQ hi hs]; exact q1) q3)
    · exact h.elim
  | new n =>
    obtain ⟨h1, h2, h⟩ := am_room_ok h
    simp only [am_ck3, Bool.and_eq_true] at hc
    obtain ⟨⟨⟨⟨c1, c2⟩, c3⟩, c4⟩, c5⟩ := hc
    have ha : a < 6 := by simpa using c1
    have hf := Nat.eq_of_beq_eq_true c3
    subst hf
    refine va_new hx hb hts (am_inC a ha) (am_tyC a) (am_tyC_ok a ha) hown (hts _ (am_wd_ok c2)) (hts _ (am_wd_ok c4)) (hts _ (am_wd_ok c5)) hKK hP hD hS hA (am_clC a ha) (fs := am_fl (am_fv base (am_wN w (0, a)) w.1) 0 (am_fk a)) ?_ (by rw [hr3]; exact h1) (by rw [hr4]; exact h2) hdg (fun q H1 q1 q2 q3 => ?_)
    · intro j hj
      obtain ⟨e1, e2⟩ := am_dfl a ha j hj
      rw [e2]
      have hg := am_fl_get (am_fv base (am_wN w (0, a)) w.1) (am_fk a) 0 j _ e1
      rw [Nat.zero_add] at hg
      show _ = (am_fl (am_fv base (am_wN w (0, a)) w.1) 0 (am_fk a)).getD j .null
      rw [List.getD_eq_getElem?_getD, hg]
      have hC : (am_wN w (0, a)).2.2.1 w.1 j = 0 := by simp [am_wN, am_uR]
      have hQ : (am_wN w (0, a)).2.2.2 w.1 j = none := by simp [am_wN, am_uR]
      cases am_tyC a j <;> simp [am_fv, hC, hQ, va_rf]
    · refine am_size fun hz => ?_
      have hq := am_new_at q2 q1 (by omega)
      subst hq
      refine go (u' := (u.1 + 1, u.2 + (am_cls a).2.2)) H1 locs ls h (by show s.heap.size + (u.1 + 1) = base + (w.1 + 1); omega) h1 h2 ?_ q3 hln hl
      rw [← am_ws_push (w := w) (w' := am_wN w (0, a)) rfl (by rw [am_cell_ob (show (am_wN w (0, a)).2.1 w.1 = (0, a) by simp [am_wN, am_uS])]) (fun j hj => am_cell_congr (am_uS_ne (by omega)) (am_uR_ne (by omega)) (am_uR_ne (by omega)))]
      exact q1
  | newarray t =>
    obtain ⟨y, r, hst, hy, h0⟩ := am_i_ok h
    clear h
    have h := h0
    clear h0
    subst hst
    obtain ⟨h1, h2, h⟩ := am_room_ok h
    subst hy
    simp only [am_ck3, am_num, Bool.and_eq_true, decide_eq_true_eq] at hc
    obtain ⟨⟨⟨c1, c2⟩, c3⟩, ⟨c4, c5⟩, c6⟩ := hc
    have hb3 : b' < 3 := by simpa using c3
    have hbt := Nat.eq_of_beq_eq_true c2
    have key : ∀ (t' : FieldType), newarray.typeOf t = t' → (am_tys ty)[b']? = some (ty b', t') → defaultValue t' = .int 0 → (∀ cA, va_RA s cA t' → va_RA s (ty b') t' → cA = ty b') →
        W p l e R s m args below meth c H locs u.1 u.2 Q (F0 m pc ls ((.int y :: r).map (am_cv base b t0))) := by
      intro t' ht' htt hdv huq
      refine va_newa hx hb (hts _ (am_wd_ok c1)) ht' hKK hP hD hS hA (N' := a) (a0 := (a, .inl (fun _ => 0))) (fun cA => by rw [vp_cell_i, hdv]) c4 c5 (by rw [← ht']; exact Nat.le_of_ble_eq_true c6) (by rw [hr3]; exact h1) (by rw [hr4]; exact h2) hdg (fun q cA H1 q0 q1 q2 q3 => ?_)
      have hcA : cA = ty b' := huq cA (q0.2 (am_tys ty).length (cA, t') (by simp)).2 (hKK.2 b' _ htt).2
      subst hcA
      refine am_size fun hz => ?_
      have hq := am_new_at q2 q1 (by omega)
      subst hq
      refine go (u' := (u.1 + 1, u.2 + a)) H1 locs ls h (by show s.heap.size + (u.1 + 1) = base + (w.1 + 1); omega) h1 h2 ?_ q3 hln hl
      rw [← am_ws_push (w := w) (w' := am_wN w (b' + 1, a)) (e := .inl (ty b', a, .inl (fun _ => 0))) rfl ?_ (fun j hj => am_cell_congr (am_uS_ne (by omega)) (am_uR_ne (by omega)) (am_uR_ne (by omega)))]
      · exact q1
      · rw [am_cell_ar (show (am_wN w (b' + 1, a)).2.1 w.1 = (b' + 1, a) by simp [am_wN, am_uS]) (by omega)]
        have : (am_wN w (b' + 1, a)).2.2.1 w.1 = fun _ => 0 := by simp [am_wN, am_uR]
        rw [this]
    cases t with
    | char => cases hbt; exact key .char rfl rfl rfl (fun cA q1 q2 => Option.some.inj (q1.symm.trans q2))
    | int => cases hbt; exact key .int rfl rfl rfl (fun cA q1 q2 => Option.some.inj (q1.symm.trans q2))
    | boolean => cases hbt; exact key .boolean rfl rfl rfl (fun cA q1 q2 => Option.some.inj (q1.symm.trans q2))
    | _ => cases hbt; exact absurd hb3 (by decide)
  | anewarray n =>
    obtain ⟨y, r, hst, hy, h0⟩ := am_i_ok h
    clear h
    have h := h0
    clear h0
    subst hst
    obtain ⟨h1, h2, h⟩ := am_room_ok h
    subst hy
    simp only [am_ck3, am_num, Bool.and_eq_true, decide_eq_true_eq] at hc
    obtain ⟨⟨c1, c2⟩, ⟨c4, c5⟩, c6⟩ := hc
    refine va_newq hx hb hown (hts _ (am_wd_ok c1)) hAO hKK hP hD hS hA c4 c5 (Nat.le_of_ble_eq_true c6) (by rw [hr3]; exact h1) (by rw [hr4]; exact h2) hdg (fun q cA H1 q0 q1 q2 q3 => ?_)
    have hcA : cA = ty 3 := by
      obtain ⟨_, _, _, _, _, e1⟩ := (q0.2 (am_tys ty).length (cA, .object "FaceRounds$State") (by simp)).2
      obtain ⟨_, _, _, _, _, e2⟩ := (hKK.2 3 (ty 3, .object "FaceRounds$State") rfl).2
      exact Option.some.inj (e1.symm.trans e2)
    subst hcA
    refine am_size fun hz => ?_
    have hq := am_new_at q2 q1 (by omega)
    subst hq
    refine go (u' := (u.1 + 1, u.2 + a)) H1 locs ls h (by show s.heap.size + (u.1 + 1) = base + (w.1 + 1); omega) h1 h2 ?_ q3 hln hl
    rw [← am_ws_push (w := w) (w' := am_wN w (4, a)) (e := .inl (ty 3, a, .inr (.inr (.inr (.inr (fun _ => none)))))) rfl ?_ (fun j hj => am_cell_congr (am_uS_ne (by omega)) (am_uR_ne (by omega)) (am_uR_ne (by omega)))]
    · exact q1
    · rw [am_cell_aq (show (am_wN w (4, a)).2.1 w.1 = (4, a) by simp [am_wN, am_uS])]
      have : (fun j => ((am_wN w (4, a)).2.2.2 w.1 j).map (base + ·)) = fun _ => none := by
        funext j
        simp [am_wN, am_uR]
      rw [this]
  | invokevirtual n =>
    obtain ⟨av, r, hlen, hst, h0⟩ := am_pop_ok h
    clear h
    have h := h0
    clear h0
    subst hst
    rw [List.append_nil] at h
    split at h
    · rename_i i r
      obtain ⟨hi, hs, h⟩ := am_ob_ok h
      obtain ⟨hcs, h⟩ := am_cs8_ok h
      obtain ⟨d', rfl, hC⟩ := am_cf_ok h
      simp only [am_ck3, Bool.and_eq_true, decide_eq_true_eq] at hc
      obtain ⟨⟨⟨⟨c1, c2⟩, c3⟩, c4⟩, -⟩ := hc
      refine am_size fun hz => ?_
      exact am_callV hF hE hlen hi hs (by simpa using c3) c4 c1 (am_wd_ok c2) hC hdg hcs hP hS (by omega) hu1 hu2 hl.1 (fun r' w' H1 locs1 q1 q2 q3 q4 => by
        have := go3 (st' := r'.toList ++ r) H1 locs1 q1 q2 q3 q4
        cases r' <;> exact this)
    · exact h.elim
  | invokestatic n =>
    dsimp only [am_stp] at h
    split at h
    · split at h
      · rename_i d' n' dp q1 sp q0 r
        obtain ⟨t, n0, n1, hq0, hq1, hs0, hs1, h⟩ := am_cpa_ok h
        obtain ⟨hcs, g1, g2, g3, g4, g5, h⟩ := am_cs8_ok h
        simp only [am_ck3, Bool.and_eq_true] at hc
        obtain ⟨c1, -⟩ := hc
        have hnn := am_isC_ok
        simp only [am_isC, Bool.and_eq_true] at hnn
        obtain ⟨⟨w1, w2⟩, w3⟩ := hnn
        have hlo : ((r.map (am_cv base b t0)).map fun v => v.category).sum + (nativeFrameWords "java/lang/System" "arraycopy" 5 + 11) ≤ R.locals := by
          rw [am_cs_map]
          have : nativeFrameWords "java/lang/System" "arraycopy" 5 = 7 := by decide
          omega
        have key : ∀ (ty' : FieldType), t ≠ 3 → (am_tys ty)[t]? = some (ty t, ty') → refKind ty' = false → (∀ i, i < n'.toNatClampNeg → fits ty' (.int (w.2.2.1 q0 (sp.toNatClampNeg + i))) = true) → K (pc + 3) lc r (am_wC w (am_uR w.2.2.1 q1 (va_cpy (w.2.2.1 q0) (w.2.2.1 q1) sp.toNatClampNeg dp.toNatClampNeg n'.toNatClampNeg))) u →
            W p l e R s m args below meth c H locs u.1 u.2 Q (F0 m pc ls ((.int n' :: .int dp :: .ref q1 :: .int sp :: .ref q0 :: r).map (am_cv base b t0))) := by
          intro ty' h3 htt hrk hfit hk
          exact va_copyi hx hb (hml.trans hl.1.symm) hown (hts _ (am_wd_ok c1)) (hts _ (am_wd_ok w1)) (hts _ (am_wd_ok w2)) (hts _ (am_wd_ok w3)) hKK hP hD hS q0 q1 t t (by rw [am_ws_get hq0, am_cell_ar hs0 h3]) (by rw [am_ws_get hq1, am_cell_ar hs1 h3]) htt htt hrk g1 g2 g3 g4 g5 hfit (by omega) hlo hdg
            (fun H1 locs1 z1 _ z3 => go3 H1 locs1 hk rfl (by rw [← am_putR hq1 hs1 h3]; exact z1) z3)
        unfold am_cpf at h
        split at h
        · exact key .int (by decide) rfl rfl (fun _ _ => rfl) h
        · exact key .boolean (by decide) rfl rfl (fun i hi => by rcases h.1 i hi with e | e <;> rw [e] <;> rfl) h.2
        · exact h.elim
      · exact h.elim
    · split at h
      · rename_i d' z y r
        obtain ⟨hcs, h⟩ := am_cs8_ok h
        have hmm := am_mm
        simp only [Bool.and_eq_true] at hmm
        obtain ⟨⟨w1, w2⟩, w3⟩ := hmm
        have hlo : ((r.map (am_cv base b t0)).map fun v => v.category).sum + 13 ≤ R.locals := by
          rw [am_cs_map]
          omega
        exact va_mmax hx hb (hml.trans hl.1.symm) hown (hts _ (am_wd_ok hc)) (hts _ (am_wd_ok w1)) (hts _ (am_wd_ok w3)) (hts _ (List.mem_filter.mpr ⟨List.mem_of_getElem? am_mx, rfl⟩)) (by omega) hlo (by omega) (by omega) hdg (go1 h)
      · exact h.elim
    · split at h
      · rename_i d' y r
        obtain ⟨hcs, h⟩ := am_cs8_ok h
        have hmm := am_mm
        simp only [Bool.and_eq_true] at hmm
        obtain ⟨⟨w1, w2⟩, w3⟩ := hmm
        have hlo : ((r.map (am_cv base b t0)).map fun v => v.category).sum + 13 ≤ R.locals := by
          rw [am_cs_map]
          omega
        exact va_mabs hx hb (hml.trans hl.1.symm) hown (hts _ (am_wd_ok hc)) (hts _ (am_wd_ok w2)) (hts _ (am_wd_ok w3)) (hts _ (List.mem_filter.mpr ⟨List.mem_of_getElem? am_ma, rfl⟩)) (by omega) hlo (by omega) (by omega) hdg (go1 h)
      · exact h.elim
    · rename_i h2 h3 h4
      obtain ⟨av, r, hlen, hst, h0⟩ := am_pop_ok h
      clear h
      have h := h0
      clear h0
      subst hst
      rw [List.append_nil] at h
      obtain ⟨hcs, h⟩ := am_cs8_ok h
      obtain ⟨d', rfl, hC⟩ := am_cf_ok h
      have hlk : am_has am_Ss a = true ∧ ((.methodLink (mY k).cls n (mY a) : Cond) ∈ am_tbl ∨ (.methodLinkNest (mY k).cls n (mY a) "FaceRounds" : Cond) ∈ am_nest) := by
        dsimp only [am_ck3] at hc
        split at hc
        · exact absurd rfl h2
        · exact absurd rfl h3
        · exact absurd rfl h4
        · simp only [Bool.and_eq_true, decide_eq_true_eq] at hc
          exact ⟨hc.1, Or.inr (List.mem_of_getElem? hc.2)⟩
        · simp only [Bool.and_eq_true] at hc
          exact ⟨hc.1, Or.inl (am_wd_ok hc.2)⟩
      refine am_size fun hz => ?_
      exact am_callS hF hE hlen hlk.1 hlk.2 hC hdg hcs hP hS (by omega) hu1 hu2 hl.1 (fun r' w' H1 locs1 q1 q2 q3 q4 => by
        have := go3 (st' := r'.toList ++ r) H1 locs1 q1 q2 q3 q4
        cases r' <;> exact this)
  | invokespecial n =>
    dsimp only [am_stp] at h
    split at h
    · split at h
      · rename_i d' i r
        obtain ⟨hcs, h⟩ := am_cs8_ok h
        simp only [am_ck3, Bool.and_eq_true] at hc
        obtain ⟨c1, c2⟩ := hc
        simp only [am_isO, Bool.and_eq_true] at c2
        refine W.objInit hx hb hown (hts _ (am_wd_ok c1)) (hts _ (am_wd_ok c2.1)) (hts _ (List.mem_filter.mpr ⟨List.mem_of_getElem? am_oc, rfl⟩)) rfl (by rw [hml]; exact hl.1) rfl hdg (by omega) ?_ (go1 h)
        show 2 * 0 + ((r.map (am_cv base b t0)).map fun v => v.category).sum + 12 ≤ R.locals
        rw [am_cs_map]
        omega
      · exact h.elim
    · rename_i h2
      obtain ⟨av, r, hlen, hst, h0⟩ := am_pop_ok h
      clear h
      have h := h0
      clear h0
      subst hst
      rw [List.append_nil] at h
      split at h
      · rename_i i r
        obtain ⟨hcs, h⟩ := am_cs8_ok h
        obtain ⟨h1, h2', h⟩ := am_room_ok h
        obtain ⟨d', rfl, hC⟩ := am_cf_ok h
        have hlk : am_has am_Is a = true ∧ ((.methodLink (mY k).cls n (mY a) : Cond) ∈ am_tbl ∨ (.methodLinkNest (mY k).cls n (mY a) "FaceRounds" : Cond) ∈ am_nest) := by
          dsimp only [am_ck3] at hc
          split at hc
          · exact absurd rfl h2
          · simp only [Bool.and_eq_true, decide_eq_true_eq] at hc
            exact ⟨hc.1, Or.inr (List.mem_of_getElem? hc.2)⟩
          · simp only [Bool.and_eq_true] at hc
            exact ⟨hc.1, Or.inl (am_wd_ok hc.2)⟩
        refine am_size fun hz => ?_
        exact am_callI hF hE hlen hlk.1 hlk.2 hC hdg hcs hP hS (by omega) h1 h2' hl.1 (fun r' w' H1 locs1 q1 q2 q3 q4 => by
          have := go (u' := (u.1 + mC a, u.2 + mS a)) (st' := r'.toList ++ r) H1 locs1 ls q1 (by show s.heap.size + (u.1 + mC a) = base + w'.1; omega) h1 h2' q3 q4 hln hl
          cases r' <;> exact this)
      · exact h.elim
  | ireturn =>
    dsimp only [am_stp] at h
    split at h
    · rename_i y
      have hri : Post (some (.int y)) w ∧ am_Ri k pc (some (.int y)) := by
        dsimp only [am_ck3] at hc
        split at hc
        · rename_i hm
          split at h
          · exact ⟨h, hdg, .int, hm, rfl⟩
          · exact ⟨h.2, hdg, .int, hm, rfl⟩
        · rename_i hm
          have hf := Nat.eq_of_beq_eq_true hc
          subst hf
          exact ⟨h.2, hdg, .boolean, hm, by rcases h.1 with e | e <;> rw [e] <;> rfl⟩
        · cases hc
      exact hret (some (.int y)) w u H locs ls pc hri.1 hsz hu1 hu2 hP hS hri.2
    · exact h.elim
  | return_ =>
    dsimp only [am_stp] at h
    split at h
    · exact hret none w u H locs ls pc h hsz hu1 hu2 hP hS ⟨hdg, of_decide_eq_true hc⟩
    · exact h.elim
  | _ => exact False.elim h
end
section
def am_el (pc : Nat) : List Nat → Bool
  | [] => false
  | x :: t => match Nat.beq x pc with
    | true => true
    | false => am_el pc t
/-- at most n steps, up to the places in stops -/
def am_wp (T : List aI) (d k : Nat) (sx : Option (Nat × (Nat → Int32))) (stops : List Nat) (Post : Option Value → aW → Prop) : Nat → Nat → aL → List Value → aW → Nat × Nat → Prop
  | 0, pc, lc, st, w, u => am_At d k sx Post pc lc st w u
  | n + 1, pc, lc, st, w, u => match am_look T pc with
    | none => False
    | some x => am_stp d sx (mC k, mS k) x lc st w u (fun pc' lc' st' w' u' => match am_el pc' stops with
      | true => am_At d k sx Post pc' lc' st' w' u'
      | false => am_wp T d k sx stops Post n pc' lc' st' w' u') Post
theorem am_look_ok : ∀ {T : List aI} {pc : Nat} {x : aI}, am_look T pc = some x → x ∈ T ∧ x.1 = pc
  | [], _, _, h => by cases h
  | y :: t, pc, x, h => by
    unfold am_look at h
    split at h
    · rename_i hb
      cases h
      exact ⟨List.mem_cons_self, Nat.eq_of_beq_eq_true hb⟩
    · obtain ⟨h1, h2⟩ := am_look_ok h
      exact ⟨List.mem_cons_of_mem _ h1, h2⟩
theorem am_wp_ok {T : List aI} {d k : Nat} {sx : Option (Nat × (Nat → Int32))} {stops : List Nat} {Post : Option Value → aW → Prop} (hT : T.all (am_ck k) = true) : ∀ (n pc : Nat) (lc : aL) (st : List Value) (w : aW) (u : Nat × Nat), am_wp T d k sx stops Post n pc lc st w u → am_At d k sx Post pc lc st w u
  | 0, _, _, _, _, _, h => h
  | n + 1, pc, lc, st, w, u, h => by
    unfold am_wp at h
    split at h
    · exact h.elim
    · rename_i x hx
      obtain ⟨h1, h2⟩ := am_look_ok hx
      subst h2
      refine am_stp_ok (List.all_eq_true.mp hT x h1) h ?_
      intro pc' lc' st' w' u' hk
      split at hk
      · exact hk
      · exact am_wp_ok hT n pc' lc' st' w' u' hk
theorem am_At.mono {d k : Nat} {sx : Option (Nat × (Nat → Int32))} {P P' : Option Value → aW → Prop} {pc : Nat} {lc : aL} {st : List Value} {w : aW} {u : Nat × Nat} (h : am_At d k sx P pc lc st w u) (hp : ∀ r w', P r w' → P' r w') : am_At d k sx P' pc lc st w u :=
  fun p l e R s m args below meth c D ty base b t0 Q hF hE hX hbase hret => h p l e R s m args below meth c D ty base b t0 Q hF hE hX hbase (fun r w' u' H locs ls pc' hr => hret r w' u' H locs ls pc' (hp r w' hr))
def am_a1 : List Value → Bool
  | [] => true
  | v :: t => am_cat1 v && am_a1 t
def am_lc (n : Nat) (av : List Value) : aL := av.map some ++ List.replicate (n - av.length) none
theorem am_args {base b t0 : Nat} : ∀ (av : List Value) (i n : Nat) (q : Nat × Value), am_a1 av = true → q ∈ am_al (am_cv base b t0) i (av.map some ++ List.replicate n none) → q ∈ lv_args i (av.map (am_cv base b t0))
  | [], i, n, q, _, h => by
    obtain ⟨j, x⟩ := q
    obtain ⟨v, -, h2, -⟩ := am_al_mem h
    exfalso
    have : ∀ (n k : Nat), am_nth (List.replicate n none) k = none := by
      intro n
      induction n with
      | zero => intro k; rfl
      | succ n ih =>
        intro k
        cases k with
        | zero => rfl
        | succ k => exact ih k
    rw [show (List.map some ([] : List Value) ++ List.replicate n none) = List.replicate n none from rfl, this] at h2
    cases h2
  | v :: t, i, n, q, hc, h => by
    simp only [am_a1, Bool.and_eq_true] at hc
    have hcat : (am_cv base b t0 v).category = 1 := by
      rw [am_cv_cat]
      have := hc.1
      cases v <;> first | rfl | cases this
    have e : lv_args i ((v :: t).map (am_cv base b t0)) = (i, am_cv base b t0 v) :: lv_args (i + 1) (t.map (am_cv base b t0)) := by
      simp [lv_args, hcat]
    rw [e]
    rcases List.mem_cons.mp h with rfl | h
    · exact List.mem_cons_self
    · exact List.mem_cons_of_mem _ (am_args t (i + 1) n q hc.2 h)
theorem am_sl_len {base b t0 : Nat} : ∀ (av : List Value), am_a1 av = true → (lg_sl (av.map (am_cv base b t0))).length = av.length
  | [], _ => rfl
  | v :: t, hc => by
    simp only [am_a1, Bool.and_eq_true] at hc
    have hcat : (am_cv base b t0 v).category = 1 := by
      rw [am_cv_cat]
      have := hc.1
      cases v <;> first | rfl | cases this
    have h := am_sl_len (base := base) (b := b) (t0 := t0) t hc.2
    simp only [lg_sl, List.map_cons, List.flatMap_cons, hcat] at h ⊢
    simp [h]
set_option maxHeartbeats 4000000 in
/-- a method by its body: from its entry with these arguments -/
theorem am_meth {d k : Nat} {av : List Value} {w : aW} {Post : Option Value → aW → Prop} (hp : plainFor (mY k) = true) (ha : am_a1 av = true) (hn : av.length ≤ mL k)
    (h : am_At d k none (fun r w' => Post r w' ∧ w'.1 = w.1 + mC k) 0 (am_lc (mL k) av) [] w (0, 0)) : am_Call d k av w Post := by
  intro l D ty base b t0
  refine va_MetF (cc := mB k) (maxL := mL k) (ret := mR k) hp rfl ?_
  intro p e s m args below meth c s₁ B hml hv
  obtain ⟨rfl, hE, hP, hz⟩ := hv
  have hpre := atoms_spec (ws := am_mw k) B.pre
  have hlocks := B.notSynchronized
  rw [lg_entry_eq]
  have hsl := am_sl_len (base := base) (b := b) (t0 := t0) av ha
  have hl := lv_entry (av.map (am_cv base b t0)) (n := mL k) (by rw [hsl]; exact hn)
  refine h p l e (am_rm d k) s m _ below meth c D ty base b t0 _ ⟨B.exec, B.bytes, hml, findClass_of_methodNamed B.named, fun q hq => hpre q (List.mem_cons_of_mem _ hq), ⟨Nat.le_refl _, Nat.le_refl _, rfl, rfl⟩, fun hi => (name_of_methodNamed B.named B.method).1.trans hi⟩ hE trivial (by omega) ?_ s.heap [] _ (by show s.heap.size + 0 = base + w.1; omega) (Nat.zero_le _) (Nat.zero_le _) hP va_S.rf ?_ ?_
  · intro r w' u' H locs ls pc' ⟨hr, hw⟩ hsz h1 h2 hP' hS' hri
    refine W.widen h1 h2 ?_
    cases r with
    | none =>
      obtain ⟨q1, q2⟩ := hri
      exact W.vret B.exec B.bytes (B.returns.trans q2) (fun t ht hW => ⟨⟨none, w', rfl, hr, hw, by rw [ht]; exact hP'⟩, hS'.F ht⟩) hS'.2.2 q1
    | some v =>
      cases v with
      | int x =>
        obtain ⟨q1, ty', q2, q3⟩ := hri
        exact W.zret B.exec B.bytes (B.returns.trans q2) q3 (fun t ht hW => ⟨⟨some (.int x), w', rfl, hr, hw, by rw [ht]; exact hP'⟩, hS'.F ht⟩) hS'.2.2 q1
      | _ => exact False.elim hri
  · simp [am_lc]
    omega
  · refine ⟨hl.1, hl.2.1, fun q hq => hl.2.2 q ?_⟩
    exact am_args av 0 (mL k - av.length) q ha hq
theorem am_plain {k : Nat} (h : (am_has am_Vs k || am_has am_Ss k || am_has am_Is k) = true) : plainFor (mY k) = true := by
  simp only [Bool.or_eq_true] at h
  rcases h with (h | h) | h
  · obtain ⟨q, rfl, hq⟩ := am_has_ok am_Vs_ok h
    simp only [am_okV, Bool.and_eq_true] at hq
    exact (am_okC_ok hq.1.1.1.1).2.2.2.2
  · obtain ⟨q, rfl, hq⟩ := am_has_ok am_Ss_ok h
    simp only [am_okS, Bool.and_eq_true] at hq
    exact (am_okC_ok hq.1.1.1).2.2.2.2
  · obtain ⟨q, rfl, hq⟩ := am_has_ok am_Is_ok h
    simp only [am_okI, Bool.and_eq_true] at hq
    exact (am_okC_ok hq.1.1.1).2.2.2.2
end
section
set_option maxRecDepth 100000 in
theorem am_k0 : am_t0.all (am_ck 0) = true := by decide +kernel
set_option maxRecDepth 100000 in
theorem am_k1 : am_t1.all (am_ck 1) = true := by decide +kernel
set_option maxRecDepth 100000 in
theorem am_k2 : am_t2.all (am_ck 2) = true := by decide +kernel
set_option maxRecDepth 100000 in
theorem am_k3 : am_t3.all (am_ck 3) = true := by decide +kernel
set_option maxRecDepth 100000 in
theorem am_k4 : am_t4.all (am_ck 4) = true := by decide +kernel
set_option maxRecDepth 100000 in
theorem am_k5 : am_t5.all (am_ck 5) = true := by decide +kernel
set_option maxRecDepth 100000 in
theorem am_k6 : am_t6.all (am_ck 6) = true := by decide +kernel
set_option maxRecDepth 100000 in
theorem am_k7 : am_t7.all (am_ck 7) = true := by decide +kernel
set_option maxRecDepth 100000 in
theorem am_k8 : am_t8.all (am_ck 8) = true := by decide +kernel
set_option maxRecDepth 100000 in
theorem am_k9 : am_t9.all (am_ck 9) = true := by decide +kernel
set_option maxRecDepth 100000 in
theorem am_k10 : am_t10.all (am_ck 10) = true := by decide +kernel
set_option maxRecDepth 100000 in
theorem am_k11 : am_t11.all (am_ck 11) = true := by decide +kernel
set_option maxRecDepth 100000 in
theorem am_k12 : am_t12.all (am_ck 12) = true := by decide +kernel
set_option maxRecDepth 100000 in
theorem am_k13 : am_t13.all (am_ck 13) = true := by decide +kernel
set_option maxRecDepth 100000 in
theorem am_k14 : am_t14.all (am_ck 14) = true := by decide +kernel
set_option maxRecDepth 100000 in
theorem am_k15 : am_t15.all (am_ck 15) = true := by decide +kernel
set_option maxRecDepth 100000 in
theorem am_k16 : am_t16.all (am_ck 16) = true := by decide +kernel
set_option maxRecDepth 100000 in
theorem am_k17 : am_t17.all (am_ck 17) = true := by decide +kernel
set_option maxRecDepth 100000 in
theorem am_k18 : am_t18.all (am_ck 18) = true := by decide +kernel
set_option maxRecDepth 100000 in
theorem am_k19 : am_t19.all (am_ck 19) = true := by decide +kernel
set_option maxRecDepth 100000 in
theorem am_k20 : am_t20.all (am_ck 20) = true := by decide +kernel
set_option maxRecDepth 100000 in
theorem am_k21 : am_t21.all (am_ck 21) = true := by decide +kernel
set_option maxRecDepth 100000 in
theorem am_k22 : am_t22.all (am_ck 22) = true := by decide +kernel
set_option maxRecDepth 100000 in
theorem am_k23 : am_t23.all (am_ck 23) = true := by decide +kernel
set_option maxRecDepth 100000 in
theorem am_k24 : am_t24.all (am_ck 24) = true := by decide +kernel
set_option maxRecDepth 100000 in
theorem am_k25 : am_t25.all (am_ck 25) = true := by decide +kernel
set_option maxRecDepth 100000 in
theorem am_k26 : am_t26.all (am_ck 26) = true := by decide +kernel
set_option maxRecDepth 100000 in
theorem am_k27 : am_t27.all (am_ck 27) = true := by decide +kernel
set_option maxRecDepth 100000 in
theorem am_k28 : am_t28.all (am_ck 28) = true := by decide +kernel
set_option maxRecDepth 100000 in
theorem am_k29 : am_t29.all (am_ck 29) = true := by decide +kernel
set_option maxRecDepth 100000 in
theorem am_k30 : am_t30.all (am_ck 30) = true := by decide +kernel
set_option maxRecDepth 100000 in
theorem am_k31 : am_t31.all (am_ck 31) = true := by decide +kernel
set_option maxRecDepth 100000 in
theorem am_k32 : am_t32.all (am_ck 32) = true := by decide +kernel
set_option maxRecDepth 100000 in
theorem am_k33 : am_t33.all (am_ck 33) = true := by decide +kernel
set_option maxRecDepth 100000 in
theorem am_k34 : am_t34.all (am_ck 34) = true := by decide +kernel
set_option maxRecDepth 100000 in
theorem am_k35 : am_t35.all (am_ck 35) = true := by decide +kernel
set_option maxRecDepth 100000 in
theorem am_k36 : am_t36.all (am_ck 36) = true := by decide +kernel
set_option maxRecDepth 100000 in
theorem am_k37 : am_t37.all (am_ck 37) = true := by decide +kernel
set_option maxRecDepth 100000 in
theorem am_k38 : am_t38.all (am_ck 38) = true := by decide +kernel
set_option maxRecDepth 100000 in
theorem am_k39 : am_t39.all (am_ck 39) = true := by decide +kernel
set_option maxRecDepth 100000 in
theorem am_k40 : am_t40.all (am_ck 40) = true := by decide +kernel
set_option maxRecDepth 100000 in
theorem am_k41 : am_t41.all (am_ck 41) = true := by decide +kernel
set_option maxRecDepth 100000 in
theorem am_k42 : am_t42.all (am_ck 42) = true := by decide +kernel
set_option maxRecDepth 100000 in
theorem am_k43 : am_t43.all (am_ck 43) = true := by decide +kernel
set_option maxRecDepth 100000 in
theorem am_k44 : am_t44.all (am_ck 44) = true := by decide +kernel
set_option maxRecDepth 100000 in
theorem am_k45 : am_t45.all (am_ck 45) = true := by decide +kernel
set_option maxRecDepth 100000 in
theorem am_k46 : am_t46.all (am_ck 46) = true := by decide +kernel
set_option maxRecDepth 100000 in
theorem am_k47 : am_t47.all (am_ck 47) = true := by decide +kernel
set_option maxRecDepth 100000 in
theorem am_k48 : am_t48.all (am_ck 48) = true := by decide +kernel
set_option maxRecDepth 100000 in
theorem am_k49 : am_t49.all (am_ck 49) = true := by decide +kernel
set_option maxRecDepth 100000 in
theorem am_k50 : am_t50.all (am_ck 50) = true := by decide +kernel
set_option maxRecDepth 100000 in
theorem am_k51 : am_t51.all (am_ck 51) = true := by decide +kernel
set_option maxRecDepth 100000 in
theorem am_k52 : am_t52.all (am_ck 52) = true := by decide +kernel
set_option maxRecDepth 100000 in
theorem am_k53 : am_t53.all (am_ck 53) = true := by decide +kernel
set_option maxRecDepth 100000 in
theorem am_k54 : am_t54.all (am_ck 54) = true := by decide +kernel
set_option maxRecDepth 100000 in
theorem am_k55 : am_t55.all (am_ck 55) = true := by decide +kernel
set_option maxRecDepth 100000 in
theorem am_k56 : am_t56.all (am_ck 56) = true := by decide +kernel
set_option maxRecDepth 100000 in
theorem am_k57 : am_t57.all (am_ck 57) = true := by decide +kernel
set_option maxRecDepth 100000 in
theorem am_k58 : am_t58.all (am_ck 58) = true := by decide +kernel
set_option maxRecDepth 100000 in
theorem am_k59 : am_t59.all (am_ck 59) = true := by decide +kernel
set_option maxRecDepth 100000 in
theorem am_k60 : am_t60.all (am_ck 60) = true := by decide +kernel
set_option maxRecDepth 100000 in
theorem am_k61 : am_t61.all (am_ck 61) = true := by decide +kernel
set_option maxRecDepth 100000 in
theorem am_k62 : am_t62.all (am_ck 62) = true := by decide +kernel
set_option maxRecDepth 100000 in
theorem am_k63 : am_t63.all (am_ck 63) = true := by decide +kernel
set_option maxRecDepth 100000 in
theorem am_k64 : am_t64.all (am_ck 64) = true := by decide +kernel
set_option maxRecDepth 100000 in
theorem am_k65 : am_t65.all (am_ck 65) = true := by decide +kernel
set_option maxRecDepth 100000 in
theorem am_k66 : am_t66.all (am_ck 66) = true := by decide +kernel
set_option maxRecDepth 100000 in
theorem am_k67 : am_t67.all (am_ck 67) = true := by decide +kernel
set_option maxRecDepth 100000 in
theorem am_k68 : am_t68.all (am_ck 68) = true := by decide +kernel
set_option maxRecDepth 100000 in
theorem am_k69 : am_t69.all (am_ck 69) = true := by decide +kernel
set_option maxRecDepth 100000 in
theorem am_k70 : am_t70.all (am_ck 70) = true := by decide +kernel
set_option maxRecDepth 100000 in
theorem am_k71 : am_t71.all (am_ck 71) = true := by decide +kernel
set_option maxRecDepth 100000 in
theorem am_k72 : am_t72.all (am_ck 72) = true := by decide +kernel
set_option maxRecDepth 100000 in
theorem am_k73 : am_t73.all (am_ck 73) = true := by decide +kernel
set_option maxRecDepth 100000 in
theorem am_k74 : am_t74.all (am_ck 74) = true := by decide +kernel
set_option maxRecDepth 100000 in
theorem am_k75 : am_t75.all (am_ck 75) = true := by decide +kernel
set_option maxRecDepth 100000 in
theorem am_k76 : am_t76.all (am_ck 76) = true := by decide +kernel
set_option maxRecDepth 100000 in
theorem am_k77 : am_t77.all (am_ck 77) = true := by decide +kernel
set_option maxRecDepth 100000 in
theorem am_k78 : am_t78.all (am_ck 78) = true := by decide +kernel
set_option maxRecDepth 100000 in
theorem am_k79 : am_t79.all (am_ck 79) = true := by decide +kernel
set_option maxRecDepth 100000 in
theorem am_k80 : am_t80.all (am_ck 80) = true := by decide +kernel
set_option maxRecDepth 100000 in
theorem am_k81 : am_t81.all (am_ck 81) = true := by decide +kernel
set_option maxRecDepth 100000 in
theorem am_k82 : am_t82.all (am_ck 82) = true := by decide +kernel
set_option maxRecDepth 100000 in
theorem am_k83 : am_t83.all (am_ck 83) = true := by decide +kernel
set_option maxRecDepth 100000 in
theorem am_k84 : am_t84.all (am_ck 84) = true := by decide +kernel
set_option maxRecDepth 100000 in
theorem am_k85 : am_t85.all (am_ck 85) = true := by decide +kernel
set_option maxRecDepth 100000 in
theorem am_k86 : am_t86.all (am_ck 86) = true := by decide +kernel
set_option maxRecDepth 100000 in
theorem am_k87 : am_t87.all (am_ck 87) = true := by decide +kernel
set_option maxRecDepth 100000 in
theorem am_k88 : am_t88.all (am_ck 88) = true := by decide +kernel
set_option maxRecDepth 100000 in
theorem am_k89 : am_t89.all (am_ck 89) = true := by decide +kernel
set_option maxRecDepth 100000 in
theorem am_k90 : am_t90.all (am_ck 90) = true := by decide +kernel
set_option maxRecDepth 100000 in
theorem am_k91 : am_t91.all (am_ck 91) = true := by decide +kernel
set_option maxRecDepth 100000 in
theorem am_k92 : am_t92.all (am_ck 92) = true := by decide +kernel
set_option maxRecDepth 100000 in
theorem am_k93 : am_t93.all (am_ck 93) = true := by decide +kernel
set_option maxRecDepth 100000 in
theorem am_k94 : am_t94.all (am_ck 94) = true := by decide +kernel
set_option maxRecDepth 100000 in
theorem am_k95 : am_t95.all (am_ck 95) = true := by decide +kernel
set_option maxRecDepth 100000 in
theorem am_k96 : am_t96.all (am_ck 96) = true := by decide +kernel
set_option maxRecDepth 100000 in
theorem am_k97 : am_t97.all (am_ck 97) = true := by decide +kernel
set_option maxRecDepth 100000 in
theorem am_k98 : am_t98.all (am_ck 98) = true := by decide +kernel
set_option maxRecDepth 100000 in
theorem am_k99 : am_t99.all (am_ck 99) = true := by decide +kernel
set_option maxRecDepth 100000 in
theorem am_k100 : am_t100.all (am_ck 100) = true := by decide +kernel
set_option maxRecDepth 100000 in
theorem am_k101 : am_t101.all (am_ck 101) = true := by decide +kernel
set_option maxRecDepth 100000 in
theorem am_k102 : am_t102.all (am_ck 102) = true := by decide +kernel
set_option maxRecDepth 100000 in
theorem am_k103 : am_t103.all (am_ck 103) = true := by decide +kernel
set_option maxRecDepth 100000 in
theorem am_k104 : am_t104.all (am_ck 104) = true := by decide +kernel
set_option maxRecDepth 100000 in
theorem am_k105 : am_t105.all (am_ck 105) = true := by decide +kernel
set_option maxRecDepth 100000 in
theorem am_k106 : am_t106.all (am_ck 106) = true := by decide +kernel
set_option maxRecDepth 100000 in
theorem am_k107 : am_t107.all (am_ck 107) = true := by decide +kernel
set_option maxRecDepth 100000 in
theorem am_k108 : am_t108.all (am_ck 108) = true := by decide +kernel
set_option maxRecDepth 100000 in
theorem am_k109 : am_t109.all (am_ck 109) = true := by decide +kernel
set_option maxRecDepth 100000 in
theorem am_k110 : am_t110.all (am_ck 110) = true := by decide +kernel
set_option maxRecDepth 100000 in
theorem am_k111 : am_t111.all (am_ck 111) = true := by decide +kernel
set_option maxRecDepth 100000 in
theorem am_k112 : am_t112.all (am_ck 112) = true := by decide +kernel
set_option maxRecDepth 100000 in
theorem am_k113 : am_t113.all (am_ck 113) = true := by decide +kernel
set_option maxRecDepth 100000 in
theorem am_k114 : am_t114.all (am_ck 114) = true := by decide +kernel
set_option maxRecDepth 100000 in
theorem am_k115 : am_t115.all (am_ck 115) = true := by decide +kernel
set_option maxRecDepth 100000 in
theorem am_k116 : am_t116.all (am_ck 116) = true := by decide +kernel
set_option maxRecDepth 100000 in
theorem am_k117 : am_t117.all (am_ck 117) = true := by decide +kernel
set_option maxRecDepth 100000 in
theorem am_k118 : am_t118.all (am_ck 118) = true := by decide +kernel
set_option maxRecDepth 100000 in
theorem am_k119 : am_t119.all (am_ck 119) = true := by decide +kernel
set_option maxRecDepth 100000 in
theorem am_k120 : am_t120.all (am_ck 120) = true := by decide +kernel
set_option maxRecDepth 100000 in
theorem am_k121 : am_t121.all (am_ck 121) = true := by decide +kernel
set_option maxRecDepth 100000 in
theorem am_k122 : am_t122.all (am_ck 122) = true := by decide +kernel
set_option maxRecDepth 100000 in
theorem am_k123 : am_t123.all (am_ck 123) = true := by decide +kernel
set_option maxRecDepth 100000 in
theorem am_k124 : am_t124.all (am_ck 124) = true := by decide +kernel
set_option maxRecDepth 100000 in
theorem am_k125 : am_t125.all (am_ck 125) = true := by decide +kernel
set_option maxRecDepth 100000 in
theorem am_k126 : am_t126.all (am_ck 126) = true := by decide +kernel
set_option maxRecDepth 100000 in
theorem am_k127 : am_t127.all (am_ck 127) = true := by decide +kernel
set_option maxRecDepth 100000 in
theorem am_k128 : am_t128.all (am_ck 128) = true := by decide +kernel
set_option maxRecDepth 100000 in
theorem am_k129 : am_t129.all (am_ck 129) = true := by decide +kernel
set_option maxRecDepth 100000 in
theorem am_k130 : am_t130.all (am_ck 130) = true := by decide +kernel
set_option maxRecDepth 100000 in
theorem am_k131 : am_t131.all (am_ck 131) = true := by decide +kernel
set_option maxRecDepth 100000 in
theorem am_k132 : am_t132.all (am_ck 132) = true := by decide +kernel
set_option maxRecDepth 100000 in
theorem am_k133 : am_t133.all (am_ck 133) = true := by decide +kernel
set_option maxRecDepth 100000 in
theorem am_k134 : am_t134.all (am_ck 134) = true := by decide +kernel
set_option maxRecDepth 100000 in
theorem am_k135 : am_t135.all (am_ck 135) = true := by decide +kernel
set_option maxRecDepth 100000 in
theorem am_k136 : am_t136.all (am_ck 136) = true := by decide +kernel
set_option maxRecDepth 100000 in
theorem am_k137 : am_t137.all (am_ck 137) = true := by decide +kernel
set_option maxRecDepth 100000 in
theorem am_k138 : am_t138.all (am_ck 138) = true := by decide +kernel
set_option maxRecDepth 100000 in
theorem am_k139 : am_t139.all (am_ck 139) = true := by decide +kernel
set_option maxRecDepth 100000 in
theorem am_k140 : am_t140.all (am_ck 140) = true := by decide +kernel
set_option maxRecDepth 100000 in
theorem am_k141 : am_t141.all (am_ck 141) = true := by decide +kernel
set_option maxRecDepth 100000 in
theorem am_k142 : am_t142.all (am_ck 142) = true := by decide +kernel
set_option maxRecDepth 100000 in
theorem am_k143 : am_t143.all (am_ck 143) = true := by decide +kernel
set_option maxRecDepth 100000 in
theorem am_k144 : am_t144.all (am_ck 144) = true := by decide +kernel
set_option maxRecDepth 100000 in
theorem am_k145 : am_t145.all (am_ck 145) = true := by decide +kernel
set_option maxRecDepth 100000 in
theorem am_k146 : am_t146.all (am_ck 146) = true := by decide +kernel
set_option maxRecDepth 100000 in
theorem am_k147 : am_t147.all (am_ck 147) = true := by decide +kernel
set_option maxRecDepth 100000 in
theorem am_k148 : am_t148.all (am_ck 148) = true := by decide +kernel
set_option maxRecDepth 100000 in
theorem am_k149 : am_t149.all (am_ck 149) = true := by decide +kernel
set_option maxRecDepth 100000 in
theorem am_k150 : am_t150.all (am_ck 150) = true := by decide +kernel
set_option maxRecDepth 100000 in
theorem am_k151 : am_t151.all (am_ck 151) = true := by decide +kernel
set_option maxRecDepth 100000 in
theorem am_k152 : am_t152.all (am_ck 152) = true := by decide +kernel
set_option maxRecDepth 100000 in
theorem am_k153 : am_t153.all (am_ck 153) = true := by decide +kernel
set_option maxRecDepth 100000 in
theorem am_k154 : am_t154.all (am_ck 154) = true := by decide +kernel
set_option maxRecDepth 100000 in
theorem am_k155 : am_t155.all (am_ck 155) = true := by decide +kernel
set_option maxRecDepth 100000 in
theorem am_k156 : am_t156.all (am_ck 156) = true := by decide +kernel
set_option maxRecDepth 100000 in
theorem am_k157 : am_t157.all (am_ck 157) = true := by decide +kernel
set_option maxRecDepth 100000 in
theorem am_k158 : am_t158.all (am_ck 158) = true := by decide +kernel
set_option maxRecDepth 100000 in
theorem am_k159 : am_t159.all (am_ck 159) = true := by decide +kernel
set_option maxRecDepth 100000 in
theorem am_k160 : am_t160.all (am_ck 160) = true := by decide +kernel
set_option maxRecDepth 100000 in
theorem am_k161 : am_t161.all (am_ck 161) = true := by decide +kernel
set_option maxRecDepth 100000 in
theorem am_k162 : am_t162.all (am_ck 162) = true := by decide +kernel
set_option maxRecDepth 100000 in
theorem am_k163 : am_t163.all (am_ck 163) = true := by decide +kernel
end
section
set_option maxRecDepth 100000 in
theorem am_k164_0 : am_t164_0.all (am_ck 164) = true := by decide +kernel
set_option maxRecDepth 100000 in
theorem am_k164_1 : am_t164_1.all (am_ck 164) = true := by decide +kernel
set_option maxRecDepth 100000 in
theorem am_k164_2 : am_t164_2.all (am_ck 164) = true := by decide +kernel
set_option maxRecDepth 100000 in
theorem am_k164_3 : am_t164_3.all (am_ck 164) = true := by decide +kernel
set_option maxRecDepth 100000 in
theorem am_k164_4 : am_t164_4.all (am_ck 164) = true := by decide +kernel
set_option maxRecDepth 100000 in
theorem am_k164_5 : am_t164_5.all (am_ck 164) = true := by decide +kernel
set_option maxRecDepth 100000 in
theorem am_k164_6 : am_t164_6.all (am_ck 164) = true := by decide +kernel
set_option maxRecDepth 100000 in
theorem am_k164_7 : am_t164_7.all (am_ck 164) = true := by decide +kernel
set_option maxRecDepth 100000 in
theorem am_k164_8 : am_t164_8.all (am_ck 164) = true := by decide +kernel
set_option maxRecDepth 100000 in
theorem am_k164_9 : am_t164_9.all (am_ck 164) = true := by decide +kernel
set_option maxRecDepth 100000 in
theorem am_k164_10 : am_t164_10.all (am_ck 164) = true := by decide +kernel
set_option maxRecDepth 100000 in
theorem am_k164_11 : am_t164_11.all (am_ck 164) = true := by decide +kernel
set_option maxRecDepth 100000 in
theorem am_k164_12 : am_t164_12.all (am_ck 164) = true := by decide +kernel
set_option maxRecDepth 100000 in
theorem am_k164_13 : am_t164_13.all (am_ck 164) = true := by decide +kernel
set_option maxRecDepth 100000 in
theorem am_k164_14 : am_t164_14.all (am_ck 164) = true := by decide +kernel
set_option maxRecDepth 100000 in
theorem am_k164_15 : am_t164_15.all (am_ck 164) = true := by decide +kernel
set_option maxRecDepth 100000 in
theorem am_k164_16 : am_t164_16.all (am_ck 164) = true := by decide +kernel
set_option maxRecDepth 100000 in
theorem am_k164_17 : am_t164_17.all (am_ck 164) = true := by decide +kernel
set_option maxRecDepth 100000 in
theorem am_k164_18 : am_t164_18.all (am_ck 164) = true := by decide +kernel
theorem am_k164 : am_t164.all (am_ck 164) = true := by
  simp only [am_t164, List.all_append, Bool.and_eq_true]
  exact ⟨am_k164_0, ⟨am_k164_1, ⟨am_k164_2, ⟨am_k164_3, ⟨am_k164_4, ⟨am_k164_5, ⟨am_k164_6, ⟨am_k164_7, ⟨am_k164_8, ⟨am_k164_9, ⟨am_k164_10, ⟨am_k164_11, ⟨am_k164_12, ⟨am_k164_13, ⟨am_k164_14, ⟨am_k164_15, ⟨am_k164_16, ⟨am_k164_17, am_k164_18⟩⟩⟩⟩⟩⟩⟩⟩⟩⟩⟩⟩⟩⟩⟩⟩⟩⟩
end
section
/-! THE WORLD BEHIND THE CONSTRUCTORS: 80 cells at fixed places. C: the numbers by cell and place; p: what History.states holds.
0 FaceRounds; 1 its state (2 to 10 its arrays); 11 the snapshot; 21 History, 22 its states; 23, 33, 43, 53 its four states; 63 PointingText (64 characters, 65 targets, 66 faces, 67 readings); 68 Reckoning (69 used, 70 reduced, 71 errors, 72 left, 73 directions); 74 the model (75 s, 76 aside, 77 before, 78 kept, 79 text) -/
def am_shS : List (Nat × Nat) := [(0, 3), (2, 4), (2, 4), (2, 4), (2, 6), (2, 48), (2, 48), (2, 288), (2, 288), (3, 288)]
def am_shL : List (Nat × Nat) := [(0, 4)] ++ (am_shS ++ (am_shS ++ ([(0, 0), (4, 4)] ++ (am_shS ++ (am_shS ++ (am_shS ++ (am_shS ++ ([(0, 1), (1, 60), (2, 7), (2, 7), (2, 7)] ++ ([(0, 2), (2, 6), (2, 36), (2, 36), (2, 36), (2, 6)] ++ [(0, 5), (2, 1028), (2, 1028), (2, 4112), (2, 1028), (2, 60)])))))))))
def am_sh (i : Nat) : Nat × Nat := am_shL.getD i (0, 9)
def am_ftS (i : Nat) : List (Option Nat) := [none, none, some (i + 1), some (i + 2), some (i + 3), some (i + 4), some (i + 5), some (i + 6), some (i + 7), some (i + 8), some (i + 9)]
def am_ft (i : Nat) : List (Option Nat) := match i with
  | 0 => [some 1, some 11, none, some 21, some 63, some 68]
  | 1 => am_ftS 1
  | 11 => am_ftS 11
  | 21 => [some 22, none]
  | 23 => am_ftS 23
  | 33 => am_ftS 33
  | 43 => am_ftS 43
  | 53 => am_ftS 53
  | 63 => [some 64, none, some 65, some 66, some 67, none, none]
  | 68 => [none, some 69, some 70, some 71, some 72, some 73]
  | 74 => [some 75, some 76, some 77, none, some 78, none, some 79, none, none, none, none]
  | _ => []
def am_F (p : Nat → Option Nat) (i k : Nat) : Option Nat := match Nat.beq i 22 with
  | true => p k
  | false => (am_ft i).getD k none
def am_w (C : Nat → Nat → Int32) (p : Nat → Option Nat) : aW := (80, am_sh, C, am_F p)
def am_Ret (P : Option Value → (Nat → Nat → Int32) → (Nat → Option Nat) → Prop) : Option Value → aW → Prop := fun r w' => ∃ C' p', w' = am_w C' p' ∧ P r C' p'
/-- an exact answer -/
def am_eI (e : Int32) (C : Nat → Nat → Int32) (p : Nat → Option Nat) : Option Value → (Nat → Nat → Int32) → (Nat → Option Nat) → Prop := fun r C' p' => r = some (.int e) ∧ C' = C ∧ p' = p
def am_eV (C : Nat → Nat → Int32) (p : Nat → Option Nat) : Option Value → (Nat → Nat → Int32) → (Nat → Option Nat) → Prop := fun r C' p' => r = none ∧ C' = C ∧ p' = p
/-- method k, called: it answers e, and the numbers are C' then, the states p' -/
def cI (d k : Nat) (av : List Value) (C : Nat → Nat → Int32) (p : Nat → Option Nat) (e : Int32) (C' : Nat → Nat → Int32) (p' : Nat → Option Nat) : Prop := am_Call d k av (am_w C p) (am_Ret (am_eI e C' p'))
def cV (d k : Nat) (av : List Value) (C : Nat → Nat → Int32) (p : Nat → Option Nat) (C' : Nat → Nat → Int32) (p' : Nat → Option Nat) : Prop := am_Call d k av (am_w C p) (am_Ret (am_eV C' p'))
theorem use_I {d k : Nat} {av : List Value} {C C' : Nat → Nat → Int32} {p p' : Nat → Option Nat} {e : Int32} {K : Int32 → aW → Prop} (h : cI d k av C p e C' p') (hk : K e (am_w C' p')) : am_Ci d k av (am_w C p) K := by
  refine am_Call.mono h ?_
  rintro r w' ⟨C1, p1, rfl, rfl, rfl, rfl⟩
  exact hk
theorem use_V {d k : Nat} {av : List Value} {C C' : Nat → Nat → Int32} {p p' : Nat → Option Nat} {K : aW → Prop} (h : cV d k av C p C' p') (hk : K (am_w C' p')) : am_Cv d k av (am_w C p) K := by
  refine am_Call.mono h ?_
  rintro r w' ⟨C1, p1, rfl, rfl, rfl, rfl⟩
  exact hk
theorem ret_I {e : Int32} {C : Nat → Nat → Int32} {p : Nat → Option Nat} : am_Ret (am_eI e C p) (some (.int e)) (am_w C p) := ⟨C, p, rfl, rfl, rfl, rfl⟩
theorem ret_I' {e e' : Int32} {C C' : Nat → Nat → Int32} {p p' : Nat → Option Nat} (h : e' = e) (hC : C' = C) (hp : p' = p) : am_Ret (am_eI e C p) (some (.int e')) (am_w C' p') := ⟨C', p', rfl, by rw [h], hC, hp⟩
theorem ret_V' {C C' : Nat → Nat → Int32} {p p' : Nat → Option Nat} (hC : C' = C) (hp : p' = p) : am_Ret (am_eV C p) none (am_w C' p') := ⟨C', p', rfl, rfl, hC, hp⟩
theorem am_ob_i {w : aW} {i ci : Nat} {f : Prop} (h1 : Nat.blt i w.1 = true) (h2 : w.2.1 i = (0, ci)) (h : f) : am_ob w i ci f := by
  unfold am_ob
  rw [h1, h2]
  have : Nat.beq ci ci = true := Nat.beq_refl ci
  simp only [this]
  exact h
/-- a method of the finished world, by its body -/
theorem am_m_go {d k : Nat} {av : List Value} {C : Nat → Nat → Int32} {p : Nat → Option Nat} {P : Option Value → (Nat → Nat → Int32) → (Nat → Option Nat) → Prop} (hp : (am_has am_Vs k || am_has am_Ss k || am_has am_Is k) = true) (ha : am_a1 av = true) (hn : Nat.ble av.length (mL k) = true) (hm : Nat.beq (mC k) 0 = true)
    (h : am_At d k none (am_Ret P) 0 (am_lc (mL k) av) [] (am_w C p) (0, 0)) : am_Call d k av (am_w C p) (am_Ret P) := by
  refine am_meth (am_plain hp) ha (Nat.le_of_ble_eq_true hn) (h.mono ?_)
  rintro r w' ⟨C', p', rfl, hP⟩
  refine ⟨⟨C', p', rfl, hP⟩, ?_⟩
  rw [Nat.eq_of_beq_eq_true hm]
  rfl
end
