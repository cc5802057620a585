-- ===== PART A: goes FIRST, ahead of the names: the tables' words, and 'selects' of the private methods out of them =====
/-- a private method of a class that the tables say can be made, by its rows of tables_1 -/
def lw_okq (q : MethodName × Nat) : Prop := (q.1.cls ≠ "java/lang/invoke/MethodHandle" ∧ q.1.cls ≠ "java/lang/invoke/VarHandle") ∧ Cond.instantiable q.1.cls q.2 ∈ tables_1 ∧ Cond.privateMethod q.1 ∈ tables_1 ∧ Cond.instanceMethod q.1 ∈ tables_1
theorem lw_p0 : lw_okq (⟨"RhymeFerry", "append", "(I)V"⟩, 17) := ⟨⟨by decide +kernel, by decide +kernel⟩, List.mem_of_getElem? (i := 26) (by decide +kernel), List.mem_of_getElem? (i := 448) (by decide +kernel), List.mem_of_getElem? (i := 449) (by decide +kernel)⟩
theorem lw_p1 : lw_okq (⟨"RhymeFerry", "refused", "(ZZ)Z"⟩, 17) := ⟨⟨by decide +kernel, by decide +kernel⟩, List.mem_of_getElem? (i := 26) (by decide +kernel), List.mem_of_getElem? (i := 456) (by decide +kernel), List.mem_of_getElem? (i := 457) (by decide +kernel)⟩
theorem lw_p2 : lw_okq (⟨"RhymeFerry$Reader", "look", "()V"⟩, 17) := ⟨⟨by decide +kernel, by decide +kernel⟩, List.mem_of_getElem? (i := 332) (by decide +kernel), List.mem_of_getElem? (i := 474) (by decide +kernel), List.mem_of_getElem? (i := 475) (by decide +kernel)⟩
theorem lw_p3 : lw_okq (⟨"RhymeFerry$Reader", "lookAtLetters", "()V"⟩, 17) := ⟨⟨by decide +kernel, by decide +kernel⟩, List.mem_of_getElem? (i := 332) (by decide +kernel), List.mem_of_getElem? (i := 478) (by decide +kernel), List.mem_of_getElem? (i := 479) (by decide +kernel)⟩
theorem lw_p4 : lw_okq (⟨"RhymeFerry$Reader", "lookAtDigits", "()V"⟩, 17) := ⟨⟨by decide +kernel, by decide +kernel⟩, List.mem_of_getElem? (i := 332) (by decide +kernel), List.mem_of_getElem? (i := 482) (by decide +kernel), List.mem_of_getElem? (i := 483) (by decide +kernel)⟩
theorem lw_p5 : lw_okq (⟨"RhymeFerry$Reader", "readLine", "()Z"⟩, 17) := ⟨⟨by decide +kernel, by decide +kernel⟩, List.mem_of_getElem? (i := 332) (by decide +kernel), List.mem_of_getElem? (i := 486) (by decide +kernel), List.mem_of_getElem? (i := 487) (by decide +kernel)⟩
theorem lw_p6 : lw_okq (⟨"RhymeFerry$Reader", "lineBegun", "()I"⟩, 17) := ⟨⟨by decide +kernel, by decide +kernel⟩, List.mem_of_getElem? (i := 332) (by decide +kernel), List.mem_of_getElem? (i := 490) (by decide +kernel), List.mem_of_getElem? (i := 491) (by decide +kernel)⟩
theorem lw_p7 : lw_okq (⟨"RhymeFerry$Reader", "is", "(Ljava/lang/String;)Z"⟩, 17) := ⟨⟨by decide +kernel, by decide +kernel⟩, List.mem_of_getElem? (i := 332) (by decide +kernel), List.mem_of_getElem? (i := 495) (by decide +kernel), List.mem_of_getElem? (i := 496) (by decide +kernel)⟩
theorem lw_p8 : lw_okq (⟨"RhymeFerry$Reader", "fail", "(I)Z"⟩, 17) := ⟨⟨by decide +kernel, by decide +kernel⟩, List.mem_of_getElem? (i := 332) (by decide +kernel), List.mem_of_getElem? (i := 554) (by decide +kernel), List.mem_of_getElem? (i := 555) (by decide +kernel)⟩
theorem lw_p9 : lw_okq (⟨"RhymeFerry$Reader", "isRoomFor", "(I)Z"⟩, 17) := ⟨⟨by decide +kernel, by decide +kernel⟩, List.mem_of_getElem? (i := 332) (by decide +kernel), List.mem_of_getElem? (i := 558) (by decide +kernel), List.mem_of_getElem? (i := 559) (by decide +kernel)⟩
theorem lw_p10 : lw_okq (⟨"RhymeFerry$Reader", "readFerry", "()Z"⟩, 17) := ⟨⟨by decide +kernel, by decide +kernel⟩, List.mem_of_getElem? (i := 332) (by decide +kernel), List.mem_of_getElem? (i := 566) (by decide +kernel), List.mem_of_getElem? (i := 567) (by decide +kernel)⟩
theorem lw_p11 : lw_okq (⟨"RhymeFerry$Reader", "takes", "(Ljava/lang/String;)Z"⟩, 17) := ⟨⟨by decide +kernel, by decide +kernel⟩, List.mem_of_getElem? (i := 332) (by decide +kernel), List.mem_of_getElem? (i := 571) (by decide +kernel), List.mem_of_getElem? (i := 572) (by decide +kernel)⟩
theorem lw_p12 : lw_okq (⟨"RhymeFerry$Reader", "takesWhole", "(II)Z"⟩, 17) := ⟨⟨by decide +kernel, by decide +kernel⟩, List.mem_of_getElem? (i := 332) (by decide +kernel), List.mem_of_getElem? (i := 575) (by decide +kernel), List.mem_of_getElem? (i := 576) (by decide +kernel)⟩
theorem lw_p13 : lw_okq (⟨"RhymeFerry$Reader", "seesWhole", "(II)Z"⟩, 17) := ⟨⟨by decide +kernel, by decide +kernel⟩, List.mem_of_getElem? (i := 332) (by decide +kernel), List.mem_of_getElem? (i := 579) (by decide +kernel), List.mem_of_getElem? (i := 580) (by decide +kernel)⟩
theorem lw_p14 : lw_okq (⟨"RhymeFerry$Reader", "readWord", "()Z"⟩, 17) := ⟨⟨by decide +kernel, by decide +kernel⟩, List.mem_of_getElem? (i := 332) (by decide +kernel), List.mem_of_getElem? (i := 584) (by decide +kernel), List.mem_of_getElem? (i := 585) (by decide +kernel)⟩
theorem lw_p15 : lw_okq (⟨"RhymeFerry$Reader", "takesNewName", "()Z"⟩, 17) := ⟨⟨by decide +kernel, by decide +kernel⟩, List.mem_of_getElem? (i := 332) (by decide +kernel), List.mem_of_getElem? (i := 588) (by decide +kernel), List.mem_of_getElem? (i := 589) (by decide +kernel)⟩
def lw_privs_1 : List (MethodName × Nat) := [(⟨"RhymeFerry", "append", "(I)V"⟩, 17), (⟨"RhymeFerry", "refused", "(ZZ)Z"⟩, 17), (⟨"RhymeFerry$Reader", "look", "()V"⟩, 17), (⟨"RhymeFerry$Reader", "lookAtLetters", "()V"⟩, 17), (⟨"RhymeFerry$Reader", "lookAtDigits", "()V"⟩, 17), (⟨"RhymeFerry$Reader", "readLine", "()Z"⟩, 17), (⟨"RhymeFerry$Reader", "lineBegun", "()I"⟩, 17), (⟨"RhymeFerry$Reader", "is", "(Ljava/lang/String;)Z"⟩, 17), (⟨"RhymeFerry$Reader", "fail", "(I)Z"⟩, 17), (⟨"RhymeFerry$Reader", "isRoomFor", "(I)Z"⟩, 17), (⟨"RhymeFerry$Reader", "readFerry", "()Z"⟩, 17), (⟨"RhymeFerry$Reader", "takes", "(Ljava/lang/String;)Z"⟩, 17), (⟨"RhymeFerry$Reader", "takesWhole", "(II)Z"⟩, 17), (⟨"RhymeFerry$Reader", "seesWhole", "(II)Z"⟩, 17), (⟨"RhymeFerry$Reader", "readWord", "()Z"⟩, 17), (⟨"RhymeFerry$Reader", "takesNewName", "()Z"⟩, 17)]
theorem lw_r1 : ∀ q ∈ lw_privs_1, lw_okq q := List.forall_mem_cons.mpr ⟨lw_p0, List.forall_mem_cons.mpr ⟨lw_p1, List.forall_mem_cons.mpr ⟨lw_p2, List.forall_mem_cons.mpr ⟨lw_p3, List.forall_mem_cons.mpr ⟨lw_p4, List.forall_mem_cons.mpr ⟨lw_p5, List.forall_mem_cons.mpr ⟨lw_p6, List.forall_mem_cons.mpr ⟨lw_p7, List.forall_mem_cons.mpr ⟨lw_p8, List.forall_mem_cons.mpr ⟨lw_p9, List.forall_mem_cons.mpr ⟨lw_p10, List.forall_mem_cons.mpr ⟨lw_p11, List.forall_mem_cons.mpr ⟨lw_p12, List.forall_mem_cons.mpr ⟨lw_p13, List.forall_mem_cons.mpr ⟨lw_p14, List.forall_mem_cons.mpr ⟨lw_p15, fun _ h => absurd h List.not_mem_nil⟩⟩⟩⟩⟩⟩⟩⟩⟩⟩⟩⟩⟩⟩⟩⟩
theorem lw_p16 : lw_okq (⟨"RhymeFerry$Reader", "takesSounds", "()Z"⟩, 17) := ⟨⟨by decide +kernel, by decide +kernel⟩, List.mem_of_getElem? (i := 332) (by decide +kernel), List.mem_of_getElem? (i := 601) (by decide +kernel), List.mem_of_getElem? (i := 602) (by decide +kernel)⟩
theorem lw_p17 : lw_okq (⟨"RhymeFerry$Reader", "readPerson", "()Z"⟩, 17) := ⟨⟨by decide +kernel, by decide +kernel⟩, List.mem_of_getElem? (i := 332) (by decide +kernel), List.mem_of_getElem? (i := 612) (by decide +kernel), List.mem_of_getElem? (i := 613) (by decide +kernel)⟩
theorem lw_p18 : lw_okq (⟨"RhymeFerry$Reader", "seesToldWord", "()Z"⟩, 17) := ⟨⟨by decide +kernel, by decide +kernel⟩, List.mem_of_getElem? (i := 332) (by decide +kernel), List.mem_of_getElem? (i := 624) (by decide +kernel), List.mem_of_getElem? (i := 625) (by decide +kernel)⟩
theorem lw_p19 : lw_okq (⟨"RhymeFerry$Reader", "readKnows", "()Z"⟩, 17) := ⟨⟨by decide +kernel, by decide +kernel⟩, List.mem_of_getElem? (i := 332) (by decide +kernel), List.mem_of_getElem? (i := 632) (by decide +kernel), List.mem_of_getElem? (i := 633) (by decide +kernel)⟩
theorem lw_p20 : lw_okq (⟨"RhymeFerry$Reader", "seesToldPerson", "()Z"⟩, 17) := ⟨⟨by decide +kernel, by decide +kernel⟩, List.mem_of_getElem? (i := 332) (by decide +kernel), List.mem_of_getElem? (i := 636) (by decide +kernel), List.mem_of_getElem? (i := 637) (by decide +kernel)⟩
theorem lw_p21 : lw_okq (⟨"RhymeFerry$Reader", "readAlike", "()Z"⟩, 17) := ⟨⟨by decide +kernel, by decide +kernel⟩, List.mem_of_getElem? (i := 332) (by decide +kernel), List.mem_of_getElem? (i := 643) (by decide +kernel), List.mem_of_getElem? (i := 644) (by decide +kernel)⟩
theorem lw_p22 : lw_okq (⟨"RhymeFerry$Reader", "seesLetter", "()Z"⟩, 17) := ⟨⟨by decide +kernel, by decide +kernel⟩, List.mem_of_getElem? (i := 332) (by decide +kernel), List.mem_of_getElem? (i := 647) (by decide +kernel), List.mem_of_getElem? (i := 648) (by decide +kernel)⟩
theorem lw_p23 : lw_okq (⟨"RhymeFerry$Reader", "readHour", "()Z"⟩, 17) := ⟨⟨by decide +kernel, by decide +kernel⟩, List.mem_of_getElem? (i := 332) (by decide +kernel), List.mem_of_getElem? (i := 660) (by decide +kernel), List.mem_of_getElem? (i := 661) (by decide +kernel)⟩
theorem lw_p24 : lw_okq (⟨"RhymeFerry$Reader", "readErrand", "()Z"⟩, 17) := ⟨⟨by decide +kernel, by decide +kernel⟩, List.mem_of_getElem? (i := 332) (by decide +kernel), List.mem_of_getElem? (i := 664) (by decide +kernel), List.mem_of_getElem? (i := 665) (by decide +kernel)⟩
theorem lw_p25 : lw_okq (⟨"RhymeFerry$Reader", "readGot", "()Z"⟩, 17) := ⟨⟨by decide +kernel, by decide +kernel⟩, List.mem_of_getElem? (i := 332) (by decide +kernel), List.mem_of_getElem? (i := 669) (by decide +kernel), List.mem_of_getElem? (i := 670) (by decide +kernel)⟩
theorem lw_p26 : lw_okq (⟨"RhymeFerry", "refuse", "(I)I"⟩, 17) := ⟨⟨by decide +kernel, by decide +kernel⟩, List.mem_of_getElem? (i := 26) (by decide +kernel), List.mem_of_getElem? (i := 680) (by decide +kernel), List.mem_of_getElem? (i := 681) (by decide +kernel)⟩
theorem lw_p27 : lw_okq (⟨"RhymeFerry$Tale", "noteCommon", "(III)V"⟩, 20) := ⟨⟨by decide +kernel, by decide +kernel⟩, List.mem_of_getElem? (i := 79) (by decide +kernel), List.mem_of_getElem? (i := 688) (by decide +kernel), List.mem_of_getElem? (i := 689) (by decide +kernel)⟩
theorem lw_p28 : lw_okq (⟨"RhymeFerry", "isWord", "(I)Z"⟩, 17) := ⟨⟨by decide +kernel, by decide +kernel⟩, List.mem_of_getElem? (i := 26) (by decide +kernel), List.mem_of_getElem? (i := 722) (by decide +kernel), List.mem_of_getElem? (i := 723) (by decide +kernel)⟩
theorem lw_p29 : lw_okq (⟨"RhymeFerry", "isPerson", "(I)Z"⟩, 17) := ⟨⟨by decide +kernel, by decide +kernel⟩, List.mem_of_getElem? (i := 26) (by decide +kernel), List.mem_of_getElem? (i := 751) (by decide +kernel), List.mem_of_getElem? (i := 752) (by decide +kernel)⟩
theorem lw_p30 : lw_okq (⟨"RhymeFerry", "hasFerry", "()Z"⟩, 17) := ⟨⟨by decide +kernel, by decide +kernel⟩, List.mem_of_getElem? (i := 26) (by decide +kernel), List.mem_of_getElem? (i := 763) (by decide +kernel), List.mem_of_getElem? (i := 764) (by decide +kernel)⟩
theorem lw_p31 : lw_okq (⟨"RhymeFerry", "isHour", "(I)Z"⟩, 17) := ⟨⟨by decide +kernel, by decide +kernel⟩, List.mem_of_getElem? (i := 26) (by decide +kernel), List.mem_of_getElem? (i := 767) (by decide +kernel), List.mem_of_getElem? (i := 768) (by decide +kernel)⟩
def lw_privs_2 : List (MethodName × Nat) := [(⟨"RhymeFerry$Reader", "takesSounds", "()Z"⟩, 17), (⟨"RhymeFerry$Reader", "readPerson", "()Z"⟩, 17), (⟨"RhymeFerry$Reader", "seesToldWord", "()Z"⟩, 17), (⟨"RhymeFerry$Reader", "readKnows", "()Z"⟩, 17), (⟨"RhymeFerry$Reader", "seesToldPerson", "()Z"⟩, 17), (⟨"RhymeFerry$Reader", "readAlike", "()Z"⟩, 17), (⟨"RhymeFerry$Reader", "seesLetter", "()Z"⟩, 17), (⟨"RhymeFerry$Reader", "readHour", "()Z"⟩, 17), (⟨"RhymeFerry$Reader", "readErrand", "()Z"⟩, 17), (⟨"RhymeFerry$Reader", "readGot", "()Z"⟩, 17), (⟨"RhymeFerry", "refuse", "(I)I"⟩, 17), (⟨"RhymeFerry$Tale", "noteCommon", "(III)V"⟩, 20), (⟨"RhymeFerry", "isWord", "(I)Z"⟩, 17), (⟨"RhymeFerry", "isPerson", "(I)Z"⟩, 17), (⟨"RhymeFerry", "hasFerry", "()Z"⟩, 17), (⟨"RhymeFerry", "isHour", "(I)Z"⟩, 17)]
theorem lw_r2 : ∀ q ∈ lw_privs_2, lw_okq q := List.forall_mem_cons.mpr ⟨lw_p16, List.forall_mem_cons.mpr ⟨lw_p17, List.forall_mem_cons.mpr ⟨lw_p18, List.forall_mem_cons.mpr ⟨lw_p19, List.forall_mem_cons.mpr ⟨lw_p20, List.forall_mem_cons.mpr ⟨lw_p21, List.forall_mem_cons.mpr ⟨lw_p22, List.forall_mem_cons.mpr ⟨lw_p23, List.forall_mem_cons.mpr ⟨lw_p24, List.forall_mem_cons.mpr ⟨lw_p25, List.forall_mem_cons.mpr ⟨lw_p26, List.forall_mem_cons.mpr ⟨lw_p27, List.forall_mem_cons.mpr ⟨lw_p28, List.forall_mem_cons.mpr ⟨lw_p29, List.forall_mem_cons.mpr ⟨lw_p30, List.forall_mem_cons.mpr ⟨lw_p31, fun _ h => absurd h List.not_mem_nil⟩⟩⟩⟩⟩⟩⟩⟩⟩⟩⟩⟩⟩⟩⟩⟩
theorem lw_p32 : lw_okq (⟨"RhymeFerry", "isPair", "(II)Z"⟩, 17) := ⟨⟨by decide +kernel, by decide +kernel⟩, List.mem_of_getElem? (i := 26) (by decide +kernel), List.mem_of_getElem? (i := 779) (by decide +kernel), List.mem_of_getElem? (i := 780) (by decide +kernel)⟩
theorem lw_p33 : lw_okq (⟨"RhymeFerry", "isBank", "(I)Z"⟩, 17) := ⟨⟨by decide +kernel, by decide +kernel⟩, List.mem_of_getElem? (i := 26) (by decide +kernel), List.mem_of_getElem? (i := 902) (by decide +kernel), List.mem_of_getElem? (i := 903) (by decide +kernel)⟩
theorem lw_p34 : lw_okq (⟨"RhymeFerry$Pairing", "mostIn", "([II)I"⟩, 2) := ⟨⟨by decide +kernel, by decide +kernel⟩, List.mem_of_getElem? (i := 207) (by decide +kernel), List.mem_of_getElem? (i := 911) (by decide +kernel), List.mem_of_getElem? (i := 912) (by decide +kernel)⟩
theorem lw_p35 : lw_okq (⟨"RhymeFerry$Pairing", "firstPartner", "([III)I"⟩, 2) := ⟨⟨by decide +kernel, by decide +kernel⟩, List.mem_of_getElem? (i := 207) (by decide +kernel), List.mem_of_getElem? (i := 930) (by decide +kernel), List.mem_of_getElem? (i := 931) (by decide +kernel)⟩
theorem lw_p36 : lw_okq (⟨"RhymeFerry$Pairing", "mostKeptIn", "([IILRhymeFerry$Tale;I)I"⟩, 2) := ⟨⟨by decide +kernel, by decide +kernel⟩, List.mem_of_getElem? (i := 207) (by decide +kernel), List.mem_of_getElem? (i := 951) (by decide +kernel), List.mem_of_getElem? (i := 952) (by decide +kernel)⟩
theorem lw_p37 : lw_okq (⟨"RhymeFerry$Purse", "coinsFor", "(III)I"⟩, 7) := ⟨⟨by decide +kernel, by decide +kernel⟩, List.mem_of_getElem? (i := 222) (by decide +kernel), List.mem_of_getElem? (i := 973) (by decide +kernel), List.mem_of_getElem? (i := 974) (by decide +kernel)⟩
theorem lw_p38 : lw_okq (⟨"RhymeFerry$Pairing", "leastCoinsIn", "([II)I"⟩, 2) := ⟨⟨by decide +kernel, by decide +kernel⟩, List.mem_of_getElem? (i := 207) (by decide +kernel), List.mem_of_getElem? (i := 983) (by decide +kernel), List.mem_of_getElem? (i := 984) (by decide +kernel)⟩
theorem lw_p39 : lw_okq (⟨"RhymeFerry$Purse", "isEnough", "(IZ)Z"⟩, 7) := ⟨⟨by decide +kernel, by decide +kernel⟩, List.mem_of_getElem? (i := 222) (by decide +kernel), List.mem_of_getElem? (i := 1003) (by decide +kernel), List.mem_of_getElem? (i := 1004) (by decide +kernel)⟩
theorem lw_p40 : lw_okq (⟨"RhymeFerry$Purse", "allSing", "(I)Z"⟩, 7) := ⟨⟨by decide +kernel, by decide +kernel⟩, List.mem_of_getElem? (i := 222) (by decide +kernel), List.mem_of_getElem? (i := 1007) (by decide +kernel), List.mem_of_getElem? (i := 1008) (by decide +kernel)⟩
theorem lw_p41 : lw_okq (⟨"RhymeFerry$Purse", "allPair", "(I)Z"⟩, 7) := ⟨⟨by decide +kernel, by decide +kernel⟩, List.mem_of_getElem? (i := 222) (by decide +kernel), List.mem_of_getElem? (i := 1011) (by decide +kernel), List.mem_of_getElem? (i := 1012) (by decide +kernel)⟩
theorem lw_p42 : lw_okq (⟨"RhymeFerry$Hearing", "mostLeft", "(III)I"⟩, 4) := ⟨⟨by decide +kernel, by decide +kernel⟩, List.mem_of_getElem? (i := 250) (by decide +kernel), List.mem_of_getElem? (i := 1056) (by decide +kernel), List.mem_of_getElem? (i := 1057) (by decide +kernel)⟩
theorem lw_p43 : lw_okq (⟨"RhymeFerry", "isTwoWords", "(II)Z"⟩, 17) := ⟨⟨by decide +kernel, by decide +kernel⟩, List.mem_of_getElem? (i := 26) (by decide +kernel), List.mem_of_getElem? (i := 1070) (by decide +kernel), List.mem_of_getElem? (i := 1071) (by decide +kernel)⟩
theorem lw_p44 : lw_okq (⟨"RhymeFerry", "isPrice", "(I)Z"⟩, 17) := ⟨⟨by decide +kernel, by decide +kernel⟩, List.mem_of_getElem? (i := 26) (by decide +kernel), List.mem_of_getElem? (i := 1074) (by decide +kernel), List.mem_of_getElem? (i := 1075) (by decide +kernel)⟩
theorem lw_p45 : lw_okq (⟨"RhymeFerry$Sellers", "isRest", "(II)Z"⟩, 4) := ⟨⟨by decide +kernel, by decide +kernel⟩, List.mem_of_getElem? (i := 271) (by decide +kernel), List.mem_of_getElem? (i := 1102) (by decide +kernel), List.mem_of_getElem? (i := 1103) (by decide +kernel)⟩
theorem lw_p46 : lw_okq (⟨"RhymeFerry", "isDay", "(II)Z"⟩, 17) := ⟨⟨by decide +kernel, by decide +kernel⟩, List.mem_of_getElem? (i := 26) (by decide +kernel), List.mem_of_getElem? (i := 1120) (by decide +kernel), List.mem_of_getElem? (i := 1121) (by decide +kernel)⟩
theorem lw_p47 : lw_okq (⟨"RhymeFerry$Days", "crossersAt", "(I)I"⟩, 3) := ⟨⟨by decide +kernel, by decide +kernel⟩, List.mem_of_getElem? (i := 290) (by decide +kernel), List.mem_of_getElem? (i := 1137) (by decide +kernel), List.mem_of_getElem? (i := 1138) (by decide +kernel)⟩
def lw_privs_3 : List (MethodName × Nat) := [(⟨"RhymeFerry", "isPair", "(II)Z"⟩, 17), (⟨"RhymeFerry", "isBank", "(I)Z"⟩, 17), (⟨"RhymeFerry$Pairing", "mostIn", "([II)I"⟩, 2), (⟨"RhymeFerry$Pairing", "firstPartner", "([III)I"⟩, 2), (⟨"RhymeFerry$Pairing", "mostKeptIn", "([IILRhymeFerry$Tale;I)I"⟩, 2), (⟨"RhymeFerry$Purse", "coinsFor", "(III)I"⟩, 7), (⟨"RhymeFerry$Pairing", "leastCoinsIn", "([II)I"⟩, 2), (⟨"RhymeFerry$Purse", "isEnough", "(IZ)Z"⟩, 7), (⟨"RhymeFerry$Purse", "allSing", "(I)Z"⟩, 7), (⟨"RhymeFerry$Purse", "allPair", "(I)Z"⟩, 7), (⟨"RhymeFerry$Hearing", "mostLeft", "(III)I"⟩, 4), (⟨"RhymeFerry", "isTwoWords", "(II)Z"⟩, 17), (⟨"RhymeFerry", "isPrice", "(I)Z"⟩, 17), (⟨"RhymeFerry$Sellers", "isRest", "(II)Z"⟩, 4), (⟨"RhymeFerry", "isDay", "(II)Z"⟩, 17), (⟨"RhymeFerry$Days", "crossersAt", "(I)I"⟩, 3)]
theorem lw_r3 : ∀ q ∈ lw_privs_3, lw_okq q := List.forall_mem_cons.mpr ⟨lw_p32, List.forall_mem_cons.mpr ⟨lw_p33, List.forall_mem_cons.mpr ⟨lw_p34, List.forall_mem_cons.mpr ⟨lw_p35, List.forall_mem_cons.mpr ⟨lw_p36, List.forall_mem_cons.mpr ⟨lw_p37, List.forall_mem_cons.mpr ⟨lw_p38, List.forall_mem_cons.mpr ⟨lw_p39, List.forall_mem_cons.mpr ⟨lw_p40, List.forall_mem_cons.mpr ⟨lw_p41, List.forall_mem_cons.mpr ⟨lw_p42, List.forall_mem_cons.mpr ⟨lw_p43, List.forall_mem_cons.mpr ⟨lw_p44, List.forall_mem_cons.mpr ⟨lw_p45, List.forall_mem_cons.mpr ⟨lw_p46, List.forall_mem_cons.mpr ⟨lw_p47, fun _ h => absurd h List.not_mem_nil⟩⟩⟩⟩⟩⟩⟩⟩⟩⟩⟩⟩⟩⟩⟩⟩
theorem lw_p48 : lw_okq (⟨"RhymeFerry$Shelf", "placeOf", "(I)I"⟩, 4) := ⟨⟨by decide +kernel, by decide +kernel⟩, List.mem_of_getElem? (i := 307) (by decide +kernel), List.mem_of_getElem? (i := 1153) (by decide +kernel), List.mem_of_getElem? (i := 1154) (by decide +kernel)⟩
theorem lw_p49 : lw_okq (⟨"java/lang/Throwable", "fillInStackTrace", "(I)Ljava/lang/Throwable;"⟩, 6) := ⟨⟨by decide +kernel, by decide +kernel⟩, List.mem_of_getElem? (i := 1249) (by decide +kernel), List.mem_of_getElem? (i := 1247) (by decide +kernel), List.mem_of_getElem? (i := 1248) (by decide +kernel)⟩
theorem lw_p50 : lw_okq (⟨"RhymeFerryModel", "good", "()V"⟩, 37) := ⟨⟨by decide +kernel, by decide +kernel⟩, List.mem_of_getElem? (i := 1274) (by decide +kernel), List.mem_of_getElem? (i := 1404) (by decide +kernel), List.mem_of_getElem? (i := 1405) (by decide +kernel)⟩
theorem lw_p51 : lw_okq (⟨"RhymeFerryModel", "no", "(I)I"⟩, 37) := ⟨⟨by decide +kernel, by decide +kernel⟩, List.mem_of_getElem? (i := 1274) (by decide +kernel), List.mem_of_getElem? (i := 1411) (by decide +kernel), List.mem_of_getElem? (i := 1412) (by decide +kernel)⟩
theorem lw_p52 : lw_okq (⟨"RhymeFerryModel", "next", "()V"⟩, 37) := ⟨⟨by decide +kernel, by decide +kernel⟩, List.mem_of_getElem? (i := 1274) (by decide +kernel), List.mem_of_getElem? (i := 1415) (by decide +kernel), List.mem_of_getElem? (i := 1416) (by decide +kernel)⟩
theorem lw_p53 : lw_okq (⟨"RhymeFerryModel", "look", "(I)I"⟩, 37) := ⟨⟨by decide +kernel, by decide +kernel⟩, List.mem_of_getElem? (i := 1274) (by decide +kernel), List.mem_of_getElem? (i := 1419) (by decide +kernel), List.mem_of_getElem? (i := 1420) (by decide +kernel)⟩
theorem lw_p54 : lw_okq (⟨"RhymeFerryModel", "readLine", "()V"⟩, 37) := ⟨⟨by decide +kernel, by decide +kernel⟩, List.mem_of_getElem? (i := 1274) (by decide +kernel), List.mem_of_getElem? (i := 1429) (by decide +kernel), List.mem_of_getElem? (i := 1430) (by decide +kernel)⟩
theorem lw_p55 : lw_okq (⟨"RhymeFerryModel", "isWord", "(Ljava/lang/String;)Z"⟩, 37) := ⟨⟨by decide +kernel, by decide +kernel⟩, List.mem_of_getElem? (i := 1274) (by decide +kernel), List.mem_of_getElem? (i := 1434) (by decide +kernel), List.mem_of_getElem? (i := 1435) (by decide +kernel)⟩
theorem lw_p56 : lw_okq (⟨"RhymeFerryModel", "ferryLine", "()V"⟩, 37) := ⟨⟨by decide +kernel, by decide +kernel⟩, List.mem_of_getElem? (i := 1274) (by decide +kernel), List.mem_of_getElem? (i := 1440) (by decide +kernel), List.mem_of_getElem? (i := 1441) (by decide +kernel)⟩
theorem lw_p57 : lw_okq (⟨"RhymeFerryModel", "wrong", "(II)V"⟩, 37) := ⟨⟨by decide +kernel, by decide +kernel⟩, List.mem_of_getElem? (i := 1274) (by decide +kernel), List.mem_of_getElem? (i := 1444) (by decide +kernel), List.mem_of_getElem? (i := 1445) (by decide +kernel)⟩
theorem lw_p58 : lw_okq (⟨"RhymeFerryModel", "after", "(Ljava/lang/String;II)I"⟩, 37) := ⟨⟨by decide +kernel, by decide +kernel⟩, List.mem_of_getElem? (i := 1274) (by decide +kernel), List.mem_of_getElem? (i := 1449) (by decide +kernel), List.mem_of_getElem? (i := 1450) (by decide +kernel)⟩
theorem lw_p59 : lw_okq (⟨"RhymeFerryModel", "must", "(Ljava/lang/String;)V"⟩, 37) := ⟨⟨by decide +kernel, by decide +kernel⟩, List.mem_of_getElem? (i := 1274) (by decide +kernel), List.mem_of_getElem? (i := 1453) (by decide +kernel), List.mem_of_getElem? (i := 1454) (by decide +kernel)⟩
theorem lw_p60 : lw_okq (⟨"RhymeFerryModel", "takesWord", "(Ljava/lang/String;)Z"⟩, 37) := ⟨⟨by decide +kernel, by decide +kernel⟩, List.mem_of_getElem? (i := 1274) (by decide +kernel), List.mem_of_getElem? (i := 1457) (by decide +kernel), List.mem_of_getElem? (i := 1458) (by decide +kernel)⟩
theorem lw_p61 : lw_okq (⟨"RhymeFerryModel", "number", "(II)I"⟩, 37) := ⟨⟨by decide +kernel, by decide +kernel⟩, List.mem_of_getElem? (i := 1274) (by decide +kernel), List.mem_of_getElem? (i := 1461) (by decide +kernel), List.mem_of_getElem? (i := 1462) (by decide +kernel)⟩
theorem lw_p62 : lw_okq (⟨"RhymeFerryModel", "numberHere", "(II)I"⟩, 37) := ⟨⟨by decide +kernel, by decide +kernel⟩, List.mem_of_getElem? (i := 1274) (by decide +kernel), List.mem_of_getElem? (i := 1465) (by decide +kernel), List.mem_of_getElem? (i := 1466) (by decide +kernel)⟩
theorem lw_p63 : lw_okq (⟨"RhymeFerryModel", "begins", "(Ljava/lang/String;Z)Z"⟩, 37) := ⟨⟨by decide +kernel, by decide +kernel⟩, List.mem_of_getElem? (i := 1274) (by decide +kernel), List.mem_of_getElem? (i := 1471) (by decide +kernel), List.mem_of_getElem? (i := 1472) (by decide +kernel)⟩
def lw_privs_4 : List (MethodName × Nat) := [(⟨"RhymeFerry$Shelf", "placeOf", "(I)I"⟩, 4), (⟨"java/lang/Throwable", "fillInStackTrace", "(I)Ljava/lang/Throwable;"⟩, 6), (⟨"RhymeFerryModel", "good", "()V"⟩, 37), (⟨"RhymeFerryModel", "no", "(I)I"⟩, 37), (⟨"RhymeFerryModel", "next", "()V"⟩, 37), (⟨"RhymeFerryModel", "look", "(I)I"⟩, 37), (⟨"RhymeFerryModel", "readLine", "()V"⟩, 37), (⟨"RhymeFerryModel", "isWord", "(Ljava/lang/String;)Z"⟩, 37), (⟨"RhymeFerryModel", "ferryLine", "()V"⟩, 37), (⟨"RhymeFerryModel", "wrong", "(II)V"⟩, 37), (⟨"RhymeFerryModel", "after", "(Ljava/lang/String;II)I"⟩, 37), (⟨"RhymeFerryModel", "must", "(Ljava/lang/String;)V"⟩, 37), (⟨"RhymeFerryModel", "takesWord", "(Ljava/lang/String;)Z"⟩, 37), (⟨"RhymeFerryModel", "number", "(II)I"⟩, 37), (⟨"RhymeFerryModel", "numberHere", "(II)I"⟩, 37), (⟨"RhymeFerryModel", "begins", "(Ljava/lang/String;Z)Z"⟩, 37)]
theorem lw_r4 : ∀ q ∈ lw_privs_4, lw_okq q := List.forall_mem_cons.mpr ⟨lw_p48, List.forall_mem_cons.mpr ⟨lw_p49, List.forall_mem_cons.mpr ⟨lw_p50, List.forall_mem_cons.mpr ⟨lw_p51, List.forall_mem_cons.mpr ⟨lw_p52, List.forall_mem_cons.mpr ⟨lw_p53, List.forall_mem_cons.mpr ⟨lw_p54, List.forall_mem_cons.mpr ⟨lw_p55, List.forall_mem_cons.mpr ⟨lw_p56, List.forall_mem_cons.mpr ⟨lw_p57, List.forall_mem_cons.mpr ⟨lw_p58, List.forall_mem_cons.mpr ⟨lw_p59, List.forall_mem_cons.mpr ⟨lw_p60, List.forall_mem_cons.mpr ⟨lw_p61, List.forall_mem_cons.mpr ⟨lw_p62, List.forall_mem_cons.mpr ⟨lw_p63, fun _ h => absurd h List.not_mem_nil⟩⟩⟩⟩⟩⟩⟩⟩⟩⟩⟩⟩⟩⟩⟩⟩
theorem lw_p64 : lw_okq (⟨"RhymeFerryModel", "wordLine", "()V"⟩, 37) := ⟨⟨by decide +kernel, by decide +kernel⟩, List.mem_of_getElem? (i := 1274) (by decide +kernel), List.mem_of_getElem? (i := 1475) (by decide +kernel), List.mem_of_getElem? (i := 1476) (by decide +kernel)⟩
theorem lw_p65 : lw_okq (⟨"RhymeFerryModel", "newName", "(I)V"⟩, 37) := ⟨⟨by decide +kernel, by decide +kernel⟩, List.mem_of_getElem? (i := 1274) (by decide +kernel), List.mem_of_getElem? (i := 1479) (by decide +kernel), List.mem_of_getElem? (i := 1480) (by decide +kernel)⟩
theorem lw_p66 : lw_okq (⟨"RhymeFerryModel", "mustName", "()V"⟩, 37) := ⟨⟨by decide +kernel, by decide +kernel⟩, List.mem_of_getElem? (i := 1274) (by decide +kernel), List.mem_of_getElem? (i := 1483) (by decide +kernel), List.mem_of_getElem? (i := 1484) (by decide +kernel)⟩
theorem lw_p67 : lw_okq (⟨"RhymeFerryModel", "find", "()I"⟩, 37) := ⟨⟨by decide +kernel, by decide +kernel⟩, List.mem_of_getElem? (i := 1274) (by decide +kernel), List.mem_of_getElem? (i := 1493) (by decide +kernel), List.mem_of_getElem? (i := 1494) (by decide +kernel)⟩
theorem lw_p68 : lw_okq (⟨"RhymeFerryModel", "areLetters", "()Z"⟩, 37) := ⟨⟨by decide +kernel, by decide +kernel⟩, List.mem_of_getElem? (i := 1274) (by decide +kernel), List.mem_of_getElem? (i := 1498) (by decide +kernel), List.mem_of_getElem? (i := 1499) (by decide +kernel)⟩
theorem lw_p69 : lw_okq (⟨"RhymeFerryModel", "personLine", "()V"⟩, 37) := ⟨⟨by decide +kernel, by decide +kernel⟩, List.mem_of_getElem? (i := 1274) (by decide +kernel), List.mem_of_getElem? (i := 1503) (by decide +kernel), List.mem_of_getElem? (i := 1504) (by decide +kernel)⟩
theorem lw_p70 : lw_okq (⟨"RhymeFerryModel", "oneOf", "(Ljava/lang/String;Ljava/lang/String;Ljava/lang/String;Ljava/lang/String;)I"⟩, 37) := ⟨⟨by decide +kernel, by decide +kernel⟩, List.mem_of_getElem? (i := 1274) (by decide +kernel), List.mem_of_getElem? (i := 1511) (by decide +kernel), List.mem_of_getElem? (i := 1512) (by decide +kernel)⟩
theorem lw_p71 : lw_okq (⟨"RhymeFerryModel", "wordHere", "()I"⟩, 37) := ⟨⟨by decide +kernel, by decide +kernel⟩, List.mem_of_getElem? (i := 1274) (by decide +kernel), List.mem_of_getElem? (i := 1520) (by decide +kernel), List.mem_of_getElem? (i := 1521) (by decide +kernel)⟩
theorem lw_p72 : lw_okq (⟨"RhymeFerryModel", "named", "(II)I"⟩, 37) := ⟨⟨by decide +kernel, by decide +kernel⟩, List.mem_of_getElem? (i := 1274) (by decide +kernel), List.mem_of_getElem? (i := 1524) (by decide +kernel), List.mem_of_getElem? (i := 1525) (by decide +kernel)⟩
theorem lw_p73 : lw_okq (⟨"RhymeFerryModel", "knowsLine", "()V"⟩, 37) := ⟨⟨by decide +kernel, by decide +kernel⟩, List.mem_of_getElem? (i := 1274) (by decide +kernel), List.mem_of_getElem? (i := 1528) (by decide +kernel), List.mem_of_getElem? (i := 1529) (by decide +kernel)⟩
theorem lw_p74 : lw_okq (⟨"RhymeFerryModel", "personPassed", "()I"⟩, 37) := ⟨⟨by decide +kernel, by decide +kernel⟩, List.mem_of_getElem? (i := 1274) (by decide +kernel), List.mem_of_getElem? (i := 1532) (by decide +kernel), List.mem_of_getElem? (i := 1533) (by decide +kernel)⟩
theorem lw_p75 : lw_okq (⟨"RhymeFerryModel", "personHere", "()I"⟩, 37) := ⟨⟨by decide +kernel, by decide +kernel⟩, List.mem_of_getElem? (i := 1274) (by decide +kernel), List.mem_of_getElem? (i := 1536) (by decide +kernel), List.mem_of_getElem? (i := 1537) (by decide +kernel)⟩
theorem lw_p76 : lw_okq (⟨"RhymeFerryModel", "alikeLine", "()V"⟩, 37) := ⟨⟨by decide +kernel, by decide +kernel⟩, List.mem_of_getElem? (i := 1274) (by decide +kernel), List.mem_of_getElem? (i := 1543) (by decide +kernel), List.mem_of_getElem? (i := 1544) (by decide +kernel)⟩
theorem lw_p77 : lw_okq (⟨"RhymeFerryModel", "letterHere", "()I"⟩, 37) := ⟨⟨by decide +kernel, by decide +kernel⟩, List.mem_of_getElem? (i := 1274) (by decide +kernel), List.mem_of_getElem? (i := 1547) (by decide +kernel), List.mem_of_getElem? (i := 1548) (by decide +kernel)⟩
theorem lw_p78 : lw_okq (⟨"RhymeFerryModel", "hourLine", "()V"⟩, 37) := ⟨⟨by decide +kernel, by decide +kernel⟩, List.mem_of_getElem? (i := 1274) (by decide +kernel), List.mem_of_getElem? (i := 1551) (by decide +kernel), List.mem_of_getElem? (i := 1552) (by decide +kernel)⟩
theorem lw_p79 : lw_okq (⟨"RhymeFerryModel", "errandLine", "()V"⟩, 37) := ⟨⟨by decide +kernel, by decide +kernel⟩, List.mem_of_getElem? (i := 1274) (by decide +kernel), List.mem_of_getElem? (i := 1555) (by decide +kernel), List.mem_of_getElem? (i := 1556) (by decide +kernel)⟩
def lw_privs_5 : List (MethodName × Nat) := [(⟨"RhymeFerryModel", "wordLine", "()V"⟩, 37), (⟨"RhymeFerryModel", "newName", "(I)V"⟩, 37), (⟨"RhymeFerryModel", "mustName", "()V"⟩, 37), (⟨"RhymeFerryModel", "find", "()I"⟩, 37), (⟨"RhymeFerryModel", "areLetters", "()Z"⟩, 37), (⟨"RhymeFerryModel", "personLine", "()V"⟩, 37), (⟨"RhymeFerryModel", "oneOf", "(Ljava/lang/String;Ljava/lang/String;Ljava/lang/String;Ljava/lang/String;)I"⟩, 37), (⟨"RhymeFerryModel", "wordHere", "()I"⟩, 37), (⟨"RhymeFerryModel", "named", "(II)I"⟩, 37), (⟨"RhymeFerryModel", "knowsLine", "()V"⟩, 37), (⟨"RhymeFerryModel", "personPassed", "()I"⟩, 37), (⟨"RhymeFerryModel", "personHere", "()I"⟩, 37), (⟨"RhymeFerryModel", "alikeLine", "()V"⟩, 37), (⟨"RhymeFerryModel", "letterHere", "()I"⟩, 37), (⟨"RhymeFerryModel", "hourLine", "()V"⟩, 37), (⟨"RhymeFerryModel", "errandLine", "()V"⟩, 37)]
theorem lw_r5 : ∀ q ∈ lw_privs_5, lw_okq q := List.forall_mem_cons.mpr ⟨lw_p64, List.forall_mem_cons.mpr ⟨lw_p65, List.forall_mem_cons.mpr ⟨lw_p66, List.forall_mem_cons.mpr ⟨lw_p67, List.forall_mem_cons.mpr ⟨lw_p68, List.forall_mem_cons.mpr ⟨lw_p69, List.forall_mem_cons.mpr ⟨lw_p70, List.forall_mem_cons.mpr ⟨lw_p71, List.forall_mem_cons.mpr ⟨lw_p72, List.forall_mem_cons.mpr ⟨lw_p73, List.forall_mem_cons.mpr ⟨lw_p74, List.forall_mem_cons.mpr ⟨lw_p75, List.forall_mem_cons.mpr ⟨lw_p76, List.forall_mem_cons.mpr ⟨lw_p77, List.forall_mem_cons.mpr ⟨lw_p78, List.forall_mem_cons.mpr ⟨lw_p79, fun _ h => absurd h List.not_mem_nil⟩⟩⟩⟩⟩⟩⟩⟩⟩⟩⟩⟩⟩⟩⟩⟩
theorem lw_p80 : lw_okq (⟨"RhymeFerryModel", "gotLine", "()V"⟩, 37) := ⟨⟨by decide +kernel, by decide +kernel⟩, List.mem_of_getElem? (i := 1274) (by decide +kernel), List.mem_of_getElem? (i := 1560) (by decide +kernel), List.mem_of_getElem? (i := 1561) (by decide +kernel)⟩
theorem lw_p81 : lw_okq (⟨"RhymeFerryModel", "isWordThere", "(I)Z"⟩, 37) := ⟨⟨by decide +kernel, by decide +kernel⟩, List.mem_of_getElem? (i := 1274) (by decide +kernel), List.mem_of_getElem? (i := 1582) (by decide +kernel), List.mem_of_getElem? (i := 1583) (by decide +kernel)⟩
theorem lw_p82 : lw_okq (⟨"RhymeFerryModel", "likeOf", "(II)I"⟩, 37) := ⟨⟨by decide +kernel, by decide +kernel⟩, List.mem_of_getElem? (i := 1274) (by decide +kernel), List.mem_of_getElem? (i := 1590) (by decide +kernel), List.mem_of_getElem? (i := 1591) (by decide +kernel)⟩
theorem lw_p83 : lw_okq (⟨"RhymeFerryModel", "eyeOf", "(II)I"⟩, 37) := ⟨⟨by decide +kernel, by decide +kernel⟩, List.mem_of_getElem? (i := 1274) (by decide +kernel), List.mem_of_getElem? (i := 1598) (by decide +kernel), List.mem_of_getElem? (i := 1599) (by decide +kernel)⟩
theorem lw_p84 : lw_okq (⟨"RhymeFerryModel", "isPerson", "(I)Z"⟩, 37) := ⟨⟨by decide +kernel, by decide +kernel⟩, List.mem_of_getElem? (i := 1274) (by decide +kernel), List.mem_of_getElem? (i := 1606) (by decide +kernel), List.mem_of_getElem? (i := 1607) (by decide +kernel)⟩
theorem lw_p85 : lw_okq (⟨"RhymeFerryModel", "kindOf", "(I)I"⟩, 37) := ⟨⟨by decide +kernel, by decide +kernel⟩, List.mem_of_getElem? (i := 1274) (by decide +kernel), List.mem_of_getElem? (i := 1610) (by decide +kernel), List.mem_of_getElem? (i := 1611) (by decide +kernel)⟩
theorem lw_p86 : lw_okq (⟨"RhymeFerryModel", "why", "(ZI)I"⟩, 37) := ⟨⟨by decide +kernel, by decide +kernel⟩, List.mem_of_getElem? (i := 1274) (by decide +kernel), List.mem_of_getElem? (i := 1618) (by decide +kernel), List.mem_of_getElem? (i := 1619) (by decide +kernel)⟩
theorem lw_p87 : lw_okq (⟨"RhymeFerryModel", "earAt", "(I)I"⟩, 37) := ⟨⟨by decide +kernel, by decide +kernel⟩, List.mem_of_getElem? (i := 1274) (by decide +kernel), List.mem_of_getElem? (i := 1625) (by decide +kernel), List.mem_of_getElem? (i := 1626) (by decide +kernel)⟩
theorem lw_p88 : lw_okq (⟨"RhymeFerryModel", "areTwo", "(II)Z"⟩, 37) := ⟨⟨by decide +kernel, by decide +kernel⟩, List.mem_of_getElem? (i := 1274) (by decide +kernel), List.mem_of_getElem? (i := 1633) (by decide +kernel), List.mem_of_getElem? (i := 1634) (by decide +kernel)⟩
theorem lw_p89 : lw_okq (⟨"RhymeFerryModel", "rhymeNow", "(III)I"⟩, 37) := ⟨⟨by decide +kernel, by decide +kernel⟩, List.mem_of_getElem? (i := 1274) (by decide +kernel), List.mem_of_getElem? (i := 1637) (by decide +kernel), List.mem_of_getElem? (i := 1638) (by decide +kernel)⟩
theorem lw_p90 : lw_okq (⟨"RhymeFerryModel", "rhymeOf", "(IIIII)I"⟩, 37) := ⟨⟨by decide +kernel, by decide +kernel⟩, List.mem_of_getElem? (i := 1274) (by decide +kernel), List.mem_of_getElem? (i := 1641) (by decide +kernel), List.mem_of_getElem? (i := 1642) (by decide +kernel)⟩
theorem lw_p91 : lw_okq (⟨"RhymeFerryModel", "withBy", "(III)I"⟩, 37) := ⟨⟨by decide +kernel, by decide +kernel⟩, List.mem_of_getElem? (i := 1274) (by decide +kernel), List.mem_of_getElem? (i := 1649) (by decide +kernel), List.mem_of_getElem? (i := 1650) (by decide +kernel)⟩
theorem lw_p92 : lw_okq (⟨"RhymeFerryModel", "classBy", "(II)I"⟩, 37) := ⟨⟨by decide +kernel, by decide +kernel⟩, List.mem_of_getElem? (i := 1274) (by decide +kernel), List.mem_of_getElem? (i := 1676) (by decide +kernel), List.mem_of_getElem? (i := 1677) (by decide +kernel)⟩
theorem lw_p93 : lw_okq (⟨"RhymeFerryModel", "onBank", "(I)I"⟩, 37) := ⟨⟨by decide +kernel, by decide +kernel⟩, List.mem_of_getElem? (i := 1274) (by decide +kernel), List.mem_of_getElem? (i := 1692) (by decide +kernel), List.mem_of_getElem? (i := 1693) (by decide +kernel)⟩
theorem lw_p94 : lw_okq (⟨"RhymeFerryModel", "priceOf", "(I)I"⟩, 37) := ⟨⟨by decide +kernel, by decide +kernel⟩, List.mem_of_getElem? (i := 1274) (by decide +kernel), List.mem_of_getElem? (i := 1696) (by decide +kernel), List.mem_of_getElem? (i := 1697) (by decide +kernel)⟩
theorem lw_p95 : lw_okq (⟨"RhymeFerryModel", "bankWhy", "(II)I"⟩, 37) := ⟨⟨by decide +kernel, by decide +kernel⟩, List.mem_of_getElem? (i := 1274) (by decide +kernel), List.mem_of_getElem? (i := 1704) (by decide +kernel), List.mem_of_getElem? (i := 1705) (by decide +kernel)⟩
def lw_privs_6 : List (MethodName × Nat) := [(⟨"RhymeFerryModel", "gotLine", "()V"⟩, 37), (⟨"RhymeFerryModel", "isWordThere", "(I)Z"⟩, 37), (⟨"RhymeFerryModel", "likeOf", "(II)I"⟩, 37), (⟨"RhymeFerryModel", "eyeOf", "(II)I"⟩, 37), (⟨"RhymeFerryModel", "isPerson", "(I)Z"⟩, 37), (⟨"RhymeFerryModel", "kindOf", "(I)I"⟩, 37), (⟨"RhymeFerryModel", "why", "(ZI)I"⟩, 37), (⟨"RhymeFerryModel", "earAt", "(I)I"⟩, 37), (⟨"RhymeFerryModel", "areTwo", "(II)Z"⟩, 37), (⟨"RhymeFerryModel", "rhymeNow", "(III)I"⟩, 37), (⟨"RhymeFerryModel", "rhymeOf", "(IIIII)I"⟩, 37), (⟨"RhymeFerryModel", "withBy", "(III)I"⟩, 37), (⟨"RhymeFerryModel", "classBy", "(II)I"⟩, 37), (⟨"RhymeFerryModel", "onBank", "(I)I"⟩, 37), (⟨"RhymeFerryModel", "priceOf", "(I)I"⟩, 37), (⟨"RhymeFerryModel", "bankWhy", "(II)I"⟩, 37)]
theorem lw_r6 : ∀ q ∈ lw_privs_6, lw_okq q := List.forall_mem_cons.mpr ⟨lw_p80, List.forall_mem_cons.mpr ⟨lw_p81, List.forall_mem_cons.mpr ⟨lw_p82, List.forall_mem_cons.mpr ⟨lw_p83, List.forall_mem_cons.mpr ⟨lw_p84, List.forall_mem_cons.mpr ⟨lw_p85, List.forall_mem_cons.mpr ⟨lw_p86, List.forall_mem_cons.mpr ⟨lw_p87, List.forall_mem_cons.mpr ⟨lw_p88, List.forall_mem_cons.mpr ⟨lw_p89, List.forall_mem_cons.mpr ⟨lw_p90, List.forall_mem_cons.mpr ⟨lw_p91, List.forall_mem_cons.mpr ⟨lw_p92, List.forall_mem_cons.mpr ⟨lw_p93, List.forall_mem_cons.mpr ⟨lw_p94, List.forall_mem_cons.mpr ⟨lw_p95, fun _ h => absurd h List.not_mem_nil⟩⟩⟩⟩⟩⟩⟩⟩⟩⟩⟩⟩⟩⟩⟩⟩
theorem lw_p96 : lw_okq (⟨"RhymeFerryModel", "seekPairs", "(II)I"⟩, 37) := ⟨⟨by decide +kernel, by decide +kernel⟩, List.mem_of_getElem? (i := 1274) (by decide +kernel), List.mem_of_getElem? (i := 1708) (by decide +kernel), List.mem_of_getElem? (i := 1709) (by decide +kernel)⟩
theorem lw_p97 : lw_okq (⟨"RhymeFerryModel", "layCan", "(II)V"⟩, 37) := ⟨⟨by decide +kernel, by decide +kernel⟩, List.mem_of_getElem? (i := 1274) (by decide +kernel), List.mem_of_getElem? (i := 1712) (by decide +kernel), List.mem_of_getElem? (i := 1713) (by decide +kernel)⟩
theorem lw_p98 : lw_okq (⟨"RhymeFerryModel", "tryPairs", "(III)V"⟩, 37) := ⟨⟨by decide +kernel, by decide +kernel⟩, List.mem_of_getElem? (i := 1274) (by decide +kernel), List.mem_of_getElem? (i := 1716) (by decide +kernel), List.mem_of_getElem? (i := 1717) (by decide +kernel)⟩
theorem lw_p99 : lw_okq (⟨"RhymeFerryModel", "aloneBy", "(II)I"⟩, 37) := ⟨⟨by decide +kernel, by decide +kernel⟩, List.mem_of_getElem? (i := 1274) (by decide +kernel), List.mem_of_getElem? (i := 1728) (by decide +kernel), List.mem_of_getElem? (i := 1729) (by decide +kernel)⟩
theorem lw_p100 : lw_okq (⟨"RhymeFerryModel", "tryErrands", "(III)V"⟩, 37) := ⟨⟨by decide +kernel, by decide +kernel⟩, List.mem_of_getElem? (i := 1274) (by decide +kernel), List.mem_of_getElem? (i := 1736) (by decide +kernel), List.mem_of_getElem? (i := 1737) (by decide +kernel)⟩
theorem lw_p101 : lw_okq (⟨"RhymeFerryModel", "isKept", "(II)I"⟩, 37) := ⟨⟨by decide +kernel, by decide +kernel⟩, List.mem_of_getElem? (i := 1274) (by decide +kernel), List.mem_of_getElem? (i := 1740) (by decide +kernel), List.mem_of_getElem? (i := 1741) (by decide +kernel)⟩
theorem lw_p102 : lw_okq (⟨"RhymeFerryModel", "wrongGot", "(I)I"⟩, 37) := ⟨⟨by decide +kernel, by decide +kernel⟩, List.mem_of_getElem? (i := 1274) (by decide +kernel), List.mem_of_getElem? (i := 1748) (by decide +kernel), List.mem_of_getElem? (i := 1749) (by decide +kernel)⟩
theorem lw_p103 : lw_okq (⟨"RhymeFerryModel", "costOf", "(III)I"⟩, 37) := ⟨⟨by decide +kernel, by decide +kernel⟩, List.mem_of_getElem? (i := 1274) (by decide +kernel), List.mem_of_getElem? (i := 1756) (by decide +kernel), List.mem_of_getElem? (i := 1757) (by decide +kernel)⟩
theorem lw_p104 : lw_okq (⟨"RhymeFerryModel", "tryCoins", "(II)V"⟩, 37) := ⟨⟨by decide +kernel, by decide +kernel⟩, List.mem_of_getElem? (i := 1274) (by decide +kernel), List.mem_of_getElem? (i := 1761) (by decide +kernel), List.mem_of_getElem? (i := 1762) (by decide +kernel)⟩
theorem lw_p105 : lw_okq (⟨"RhymeFerryModel", "areAllPaired", "(III)Z"⟩, 37) := ⟨⟨by decide +kernel, by decide +kernel⟩, List.mem_of_getElem? (i := 1274) (by decide +kernel), List.mem_of_getElem? (i := 1769) (by decide +kernel), List.mem_of_getElem? (i := 1770) (by decide +kernel)⟩
theorem lw_p106 : lw_okq (⟨"RhymeFerryModel", "isPaired", "(I)Z"⟩, 37) := ⟨⟨by decide +kernel, by decide +kernel⟩, List.mem_of_getElem? (i := 1274) (by decide +kernel), List.mem_of_getElem? (i := 1773) (by decide +kernel), List.mem_of_getElem? (i := 1774) (by decide +kernel)⟩
theorem lw_p107 : lw_okq (⟨"RhymeFerryModel", "heardSet", "()I"⟩, 37) := ⟨⟨by decide +kernel, by decide +kernel⟩, List.mem_of_getElem? (i := 1274) (by decide +kernel), List.mem_of_getElem? (i := 1785) (by decide +kernel), List.mem_of_getElem? (i := 1786) (by decide +kernel)⟩
theorem lw_p108 : lw_okq (⟨"RhymeFerryModel", "askOf", "()I"⟩, 37) := ⟨⟨by decide +kernel, by decide +kernel⟩, List.mem_of_getElem? (i := 1274) (by decide +kernel), List.mem_of_getElem? (i := 1797) (by decide +kernel), List.mem_of_getElem? (i := 1798) (by decide +kernel)⟩
theorem lw_p109 : lw_okq (⟨"RhymeFerryModel", "leavesBy", "(III)I"⟩, 37) := ⟨⟨by decide +kernel, by decide +kernel⟩, List.mem_of_getElem? (i := 1274) (by decide +kernel), List.mem_of_getElem? (i := 1801) (by decide +kernel), List.mem_of_getElem? (i := 1802) (by decide +kernel)⟩
theorem lw_p110 : lw_okq (⟨"RhymeFerryModel", "sellersWhy", "(III)I"⟩, 37) := ⟨⟨by decide +kernel, by decide +kernel⟩, List.mem_of_getElem? (i := 1274) (by decide +kernel), List.mem_of_getElem? (i := 1813) (by decide +kernel), List.mem_of_getElem? (i := 1814) (by decide +kernel)⟩
theorem lw_p111 : lw_okq (⟨"RhymeFerryModel", "layBuyers", "(III)V"⟩, 37) := ⟨⟨by decide +kernel, by decide +kernel⟩, List.mem_of_getElem? (i := 1274) (by decide +kernel), List.mem_of_getElem? (i := 1817) (by decide +kernel), List.mem_of_getElem? (i := 1818) (by decide +kernel)⟩
def lw_privs_7 : List (MethodName × Nat) := [(⟨"RhymeFerryModel", "seekPairs", "(II)I"⟩, 37), (⟨"RhymeFerryModel", "layCan", "(II)V"⟩, 37), (⟨"RhymeFerryModel", "tryPairs", "(III)V"⟩, 37), (⟨"RhymeFerryModel", "aloneBy", "(II)I"⟩, 37), (⟨"RhymeFerryModel", "tryErrands", "(III)V"⟩, 37), (⟨"RhymeFerryModel", "isKept", "(II)I"⟩, 37), (⟨"RhymeFerryModel", "wrongGot", "(I)I"⟩, 37), (⟨"RhymeFerryModel", "costOf", "(III)I"⟩, 37), (⟨"RhymeFerryModel", "tryCoins", "(II)V"⟩, 37), (⟨"RhymeFerryModel", "areAllPaired", "(III)Z"⟩, 37), (⟨"RhymeFerryModel", "isPaired", "(I)Z"⟩, 37), (⟨"RhymeFerryModel", "heardSet", "()I"⟩, 37), (⟨"RhymeFerryModel", "askOf", "()I"⟩, 37), (⟨"RhymeFerryModel", "leavesBy", "(III)I"⟩, 37), (⟨"RhymeFerryModel", "sellersWhy", "(III)I"⟩, 37), (⟨"RhymeFerryModel", "layBuyers", "(III)V"⟩, 37)]
theorem lw_r7 : ∀ q ∈ lw_privs_7, lw_okq q := List.forall_mem_cons.mpr ⟨lw_p96, List.forall_mem_cons.mpr ⟨lw_p97, List.forall_mem_cons.mpr ⟨lw_p98, List.forall_mem_cons.mpr ⟨lw_p99, List.forall_mem_cons.mpr ⟨lw_p100, List.forall_mem_cons.mpr ⟨lw_p101, List.forall_mem_cons.mpr ⟨lw_p102, List.forall_mem_cons.mpr ⟨lw_p103, List.forall_mem_cons.mpr ⟨lw_p104, List.forall_mem_cons.mpr ⟨lw_p105, List.forall_mem_cons.mpr ⟨lw_p106, List.forall_mem_cons.mpr ⟨lw_p107, List.forall_mem_cons.mpr ⟨lw_p108, List.forall_mem_cons.mpr ⟨lw_p109, List.forall_mem_cons.mpr ⟨lw_p110, List.forall_mem_cons.mpr ⟨lw_p111, fun _ h => absurd h List.not_mem_nil⟩⟩⟩⟩⟩⟩⟩⟩⟩⟩⟩⟩⟩⟩⟩⟩
theorem lw_p112 : lw_okq (⟨"RhymeFerryModel", "sellsOf", "(IIZ)I"⟩, 37) := ⟨⟨by decide +kernel, by decide +kernel⟩, List.mem_of_getElem? (i := 1274) (by decide +kernel), List.mem_of_getElem? (i := 1821) (by decide +kernel), List.mem_of_getElem? (i := 1822) (by decide +kernel)⟩
theorem lw_p113 : lw_okq (⟨"RhymeFerryModel", "seekRests", "(III)I"⟩, 37) := ⟨⟨by decide +kernel, by decide +kernel⟩, List.mem_of_getElem? (i := 1274) (by decide +kernel), List.mem_of_getElem? (i := 1829) (by decide +kernel), List.mem_of_getElem? (i := 1830) (by decide +kernel)⟩
theorem lw_p114 : lw_okq (⟨"RhymeFerryModel", "isRest", "(II)Z"⟩, 37) := ⟨⟨by decide +kernel, by decide +kernel⟩, List.mem_of_getElem? (i := 1274) (by decide +kernel), List.mem_of_getElem? (i := 1833) (by decide +kernel), List.mem_of_getElem? (i := 1834) (by decide +kernel)⟩
theorem lw_p115 : lw_okq (⟨"RhymeFerryModel", "dayWhy", "(ZII)I"⟩, 37) := ⟨⟨by decide +kernel, by decide +kernel⟩, List.mem_of_getElem? (i := 1274) (by decide +kernel), List.mem_of_getElem? (i := 1845) (by decide +kernel), List.mem_of_getElem? (i := 1846) (by decide +kernel)⟩
theorem lw_p116 : lw_okq (⟨"RhymeFerryModel", "goThrough", "(II)I"⟩, 37) := ⟨⟨by decide +kernel, by decide +kernel⟩, List.mem_of_getElem? (i := 1274) (by decide +kernel), List.mem_of_getElem? (i := 1850) (by decide +kernel), List.mem_of_getElem? (i := 1851) (by decide +kernel)⟩
theorem lw_p117 : lw_okq (⟨"RhymeFerryModel", "note", "()V"⟩, 37) := ⟨⟨by decide +kernel, by decide +kernel⟩, List.mem_of_getElem? (i := 1274) (by decide +kernel), List.mem_of_getElem? (i := 1863) (by decide +kernel), List.mem_of_getElem? (i := 1864) (by decide +kernel)⟩
theorem lw_p118 : lw_okq (⟨"RhymeFerryModel", "isNot", "(I)Z"⟩, 37) := ⟨⟨by decide +kernel, by decide +kernel⟩, List.mem_of_getElem? (i := 1274) (by decide +kernel), List.mem_of_getElem? (i := 1879) (by decide +kernel), List.mem_of_getElem? (i := 1880) (by decide +kernel)⟩
def lw_privs_8 : List (MethodName × Nat) := [(⟨"RhymeFerryModel", "sellsOf", "(IIZ)I"⟩, 37), (⟨"RhymeFerryModel", "seekRests", "(III)I"⟩, 37), (⟨"RhymeFerryModel", "isRest", "(II)Z"⟩, 37), (⟨"RhymeFerryModel", "dayWhy", "(ZII)I"⟩, 37), (⟨"RhymeFerryModel", "goThrough", "(II)I"⟩, 37), (⟨"RhymeFerryModel", "note", "()V"⟩, 37), (⟨"RhymeFerryModel", "isNot", "(I)Z"⟩, 37)]
theorem lw_r8 : ∀ q ∈ lw_privs_8, lw_okq q := List.forall_mem_cons.mpr ⟨lw_p112, List.forall_mem_cons.mpr ⟨lw_p113, List.forall_mem_cons.mpr ⟨lw_p114, List.forall_mem_cons.mpr ⟨lw_p115, List.forall_mem_cons.mpr ⟨lw_p116, List.forall_mem_cons.mpr ⟨lw_p117, List.forall_mem_cons.mpr ⟨lw_p118, fun _ h => absurd h List.not_mem_nil⟩⟩⟩⟩⟩⟩⟩
def lw_privs : List (MethodName × Nat) := lw_privs_1 ++ (lw_privs_2 ++ (lw_privs_3 ++ (lw_privs_4 ++ (lw_privs_5 ++ (lw_privs_6 ++ (lw_privs_7 ++ (lw_privs_8)))))))
def lw_tbl : List Cond := k2_sels lw_privs ++ tables_1
theorem lw_privs_ok : ∀ q ∈ lw_privs, lw_okq q := by
  show ∀ q ∈ lw_privs_1 ++ (lw_privs_2 ++ (lw_privs_3 ++ (lw_privs_4 ++ (lw_privs_5 ++ (lw_privs_6 ++ (lw_privs_7 ++ (lw_privs_8))))))), lw_okq q
  exact List.forall_mem_append.mpr ⟨lw_r1, List.forall_mem_append.mpr ⟨lw_r2, List.forall_mem_append.mpr ⟨lw_r3, List.forall_mem_append.mpr ⟨lw_r4, List.forall_mem_append.mpr ⟨lw_r5, List.forall_mem_append.mpr ⟨lw_r6, List.forall_mem_append.mpr ⟨lw_r7, lw_r8⟩⟩⟩⟩⟩⟩⟩

def RX0 : String := "RhymeFerry$Days"
def TX0 : u_T := fun k => match k with
  | 0 => ("RhymeFerry$Days", "rhymes", "LRhymeFerry$Rhymes;", true)
  | 1 => ("RhymeFerry$Days", "pairing", "LRhymeFerry$Pairing;", true)
  | _ => ("RhymeFerry$Days", "crossings", "[I", true)
def tyX0 : Nat → FieldType := fun k => match k with
  | 0 => .object "RhymeFerry$Rhymes"
  | 1 => .object "RhymeFerry$Pairing"
  | _ => .array .int
abbrev wsX00 : List Cond := u_ws RX0 TX0 3
theorem nmX0 : ∀ a, a < 3 → ∀ b, b < 3 → a ≠ b → (TX0 a).2.1 ≠ (TX0 b).2.1 := by decide +kernel
theorem tyX0_ok : ∀ k, k < 3 → parseFieldDescriptor (TX0 k).2.2.1 = some (tyX0 k) := by decide +kernel
abbrev cX0_init : ByteArray := prog_2_method_1_code
def yX0_init : MethodName := ⟨RX0, "<init>", "(LRhymeFerry$Rhymes;LRhymeFerry$Pairing;)V"⟩
abbrev cX0_pass : ByteArray := prog_2_method_2_code
def yX0_pass : MethodName := ⟨RX0, "pass", "(II)I"⟩
abbrev cX0_crossersAt : ByteArray := prog_2_method_3_code
def yX0_crossersAt : MethodName := ⟨RX0, "crossersAt", "(I)I"⟩
def RX1 : String := "RhymeFerry$Hearing"
def TX1 : u_T := fun k => match k with
  | 0 => ("RhymeFerry$Hearing", "rhymes", "LRhymeFerry$Rhymes;", true)
  | 1 => ("RhymeFerry$Hearing", "left", "[I", true)
  | 2 => ("RhymeFerry$Hearing", "question", "I", false)
  | _ => ("RhymeFerry$Hearing", "leaves", "I", false)
def tyX1 : Nat → FieldType := fun k => match k with
  | 0 => .object "RhymeFerry$Rhymes"
  | 1 => .array .int
  | 2 => .int
  | _ => .int
abbrev wsX10 : List Cond := u_ws RX1 TX1 4
theorem nmX1 : ∀ a, a < 4 → ∀ b, b < 4 → a ≠ b → (TX1 a).2.1 ≠ (TX1 b).2.1 := by decide +kernel
theorem tyX1_ok : ∀ k, k < 4 → parseFieldDescriptor (TX1 k).2.2.1 = some (tyX1 k) := by decide +kernel
abbrev cX1_init : ByteArray := prog_3_method_1_code
def yX1_init : MethodName := ⟨RX1, "<init>", "(LRhymeFerry$Rhymes;)V"⟩
abbrev cX1_firstUntrue : ByteArray := prog_3_method_2_code
def yX1_firstUntrue : MethodName := ⟨RX1, "firstUntrue", "(I)I"⟩
abbrev cX1_ears : ByteArray := prog_3_method_3_code
def yX1_ears : MethodName := ⟨RX1, "ears", "()I"⟩
abbrev cX1_endOf : ByteArray := prog_3_method_4_code
def yX1_endOf : MethodName := ⟨RX1, "endOf", "(IZ)I"⟩
abbrev cX1_seekQuestion : ByteArray := prog_3_method_5_code
def yX1_seekQuestion : MethodName := ⟨RX1, "seekQuestion", "(I)V"⟩
abbrev cX1_mostLeft : ByteArray := prog_3_method_6_code
def yX1_mostLeft : MethodName := ⟨RX1, "mostLeft", "(III)I"⟩
def RX2 : String := "RhymeFerry$Now"
def TX2 : u_T := fun k => match k with
  | 0 => ("RhymeFerry$Now", "hour", "I", false)
  | 1 => ("RhymeFerry$Now", "paid", "I", false)
  | 2 => ("RhymeFerry$Now", "everybody", "I", false)
  | 3 => ("RhymeFerry$Now", "far", "I", false)
  | 4 => ("RhymeFerry$Now", "words", "[I", true)
  | _ => ("RhymeFerry$Now", "wet", "[I", true)
def tyX2 : Nat → FieldType := fun k => match k with
  | 0 => .int
  | 1 => .int
  | 2 => .int
  | 3 => .int
  | 4 => .array .int
  | _ => .array .int
abbrev wsX20 : List Cond := u_ws RX2 TX2 6
theorem nmX2 : ∀ a, a < 6 → ∀ b, b < 6 → a ≠ b → (TX2 a).2.1 ≠ (TX2 b).2.1 := by decide +kernel
theorem tyX2_ok : ∀ k, k < 6 → parseFieldDescriptor (TX2 k).2.2.1 = some (tyX2 k) := by decide +kernel
abbrev cX2_init : ByteArray := prog_4_method_1_code
def yX2_init : MethodName := ⟨RX2, "<init>", "()V"⟩
abbrev cX2_begin : ByteArray := prog_4_method_2_code
def yX2_begin : MethodName := ⟨RX2, "begin", "(LRhymeFerry$Tale;)V"⟩
abbrev cX2_onBank : ByteArray := prog_4_method_3_code
def yX2_onBank : MethodName := ⟨RX2, "onBank", "(I)I"⟩
abbrev cX2_bankOf : ByteArray := prog_4_method_4_code
def yX2_bankOf : MethodName := ⟨RX2, "bankOf", "(I)I"⟩
abbrev cX2_carryOver : ByteArray := prog_4_method_5_code
def yX2_carryOver : MethodName := ⟨RX2, "carryOver", "(I)V"⟩
abbrev cX2_has : ByteArray := prog_4_method_6_code
def yX2_has : MethodName := ⟨RX2, "has", "(II)Z"⟩
abbrev cX2_whoHas : ByteArray := prog_4_method_7_code
def yX2_whoHas : MethodName := ⟨RX2, "whoHas", "(I)I"⟩
def RX3 : String := "RhymeFerry$Pairing"
def TX3 : u_T := fun k => match k with
  | 0 => ("RhymeFerry$Pairing", "partners", "[I", true)
  | _ => ("RhymeFerry$Pairing", "best", "[I", true)
def tyX3 : Nat → FieldType := fun k => match k with
  | 0 => .array .int
  | _ => .array .int
abbrev wsX30 : List Cond := u_ws RX3 TX3 2
theorem nmX3 : ∀ a, a < 2 → ∀ b, b < 2 → a ≠ b → (TX3 a).2.1 ≠ (TX3 b).2.1 := by decide +kernel
theorem tyX3_ok : ∀ k, k < 2 → parseFieldDescriptor (TX3 k).2.2.1 = some (tyX3 k) := by decide +kernel
abbrev cX3_init : ByteArray := prog_5_method_1_code
def yX3_init : MethodName := ⟨RX3, "<init>", "()V"⟩
abbrev cX3_leastOf : ByteArray := prog_5_method_2_code
def yX3_leastOf : MethodName := ⟨RX3, "leastOf", "(I)I"⟩
abbrev cX3_most : ByteArray := prog_5_method_3_code
def yX3_most : MethodName := ⟨RX3, "most", "([II)I"⟩
abbrev cX3_mostIn : ByteArray := prog_5_method_4_code
def yX3_mostIn : MethodName := ⟨RX3, "mostIn", "([II)I"⟩
abbrev cX3_pairFirst : ByteArray := prog_5_method_5_code
def yX3_pairFirst : MethodName := ⟨RX3, "pairFirst", "([II)V"⟩
abbrev cX3_firstPartner : ByteArray := prog_5_method_6_code
def yX3_firstPartner : MethodName := ⟨RX3, "firstPartner", "([III)I"⟩
abbrev cX3_mostKept : ByteArray := prog_5_method_7_code
def yX3_mostKept : MethodName := ⟨RX3, "mostKept", "([IILRhymeFerry$Tale;)I"⟩
abbrev cX3_mostKeptIn : ByteArray := prog_5_method_8_code
def yX3_mostKeptIn : MethodName := ⟨RX3, "mostKeptIn", "([IILRhymeFerry$Tale;I)I"⟩
abbrev cX3_leastCoins : ByteArray := prog_5_method_9_code
def yX3_leastCoins : MethodName := ⟨RX3, "leastCoins", "([II)I"⟩
abbrev cX3_leastCoinsIn : ByteArray := prog_5_method_10_code
def yX3_leastCoinsIn : MethodName := ⟨RX3, "leastCoinsIn", "([II)I"⟩
abbrev cX3_canAll : ByteArray := prog_5_method_11_code
def yX3_canAll : MethodName := ⟨RX3, "canAll", "([II)Z"⟩
def RX4 : String := "RhymeFerry$Purse"
def TX4 : u_T := fun k => match k with
  | 0 => ("RhymeFerry$Purse", "rhymes", "LRhymeFerry$Rhymes;", true)
  | 1 => ("RhymeFerry$Purse", "pairing", "LRhymeFerry$Pairing;", true)
  | 2 => ("RhymeFerry$Purse", "coins", "[I", true)
  | 3 => ("RhymeFerry$Purse", "links", "[I", true)
  | 4 => ("RhymeFerry$Purse", "linksBy", "[I", true)
  | 5 => ("RhymeFerry$Purse", "singers", "[I", true)
  | _ => ("RhymeFerry$Purse", "people", "I", false)
def tyX4 : Nat → FieldType := fun k => match k with
  | 0 => .object "RhymeFerry$Rhymes"
  | 1 => .object "RhymeFerry$Pairing"
  | 2 => .array .int
  | 3 => .array .int
  | 4 => .array .int
  | 5 => .array .int
  | _ => .int
abbrev wsX40 : List Cond := u_ws RX4 TX4 7
theorem nmX4 : ∀ a, a < 7 → ∀ b, b < 7 → a ≠ b → (TX4 a).2.1 ≠ (TX4 b).2.1 := by decide +kernel
theorem tyX4_ok : ∀ k, k < 7 → parseFieldDescriptor (TX4 k).2.2.1 = some (tyX4 k) := by decide +kernel
abbrev cX4_init : ByteArray := prog_6_method_1_code
def yX4_init : MethodName := ⟨RX4, "<init>", "(LRhymeFerry$Rhymes;LRhymeFerry$Pairing;)V"⟩
abbrev cX4_leastCoins : ByteArray := prog_6_method_2_code
def yX4_leastCoins : MethodName := ⟨RX4, "leastCoins", "(II)I"⟩
abbrev cX4_coinsFor : ByteArray := prog_6_method_3_code
def yX4_coinsFor : MethodName := ⟨RX4, "coinsFor", "(III)I"⟩
abbrev cX4_planPairs : ByteArray := prog_6_method_4_code
def yX4_planPairs : MethodName := ⟨RX4, "planPairs", "(II)V"⟩
abbrev cX4_planSinging : ByteArray := prog_6_method_5_code
def yX4_planSinging : MethodName := ⟨RX4, "planSinging", "(II)V"⟩
abbrev cX4_fewest : ByteArray := prog_6_method_6_code
def yX4_fewest : MethodName := ⟨RX4, "fewest", "(Z)I"⟩
abbrev cX4_isEnough : ByteArray := prog_6_method_7_code
def yX4_isEnough : MethodName := ⟨RX4, "isEnough", "(IZ)Z"⟩
abbrev cX4_allSing : ByteArray := prog_6_method_8_code
def yX4_allSing : MethodName := ⟨RX4, "allSing", "(I)Z"⟩
abbrev cX4_allPair : ByteArray := prog_6_method_9_code
def yX4_allPair : MethodName := ⟨RX4, "allPair", "(I)Z"⟩
def RX5 : String := "RhymeFerry$Reader"
def TX5 : u_T := fun k => match k with
  | 0 => ("RhymeFerry$Reader", "bytes", "[B", true)
  | 1 => ("RhymeFerry$Reader", "tale", "LRhymeFerry$Tale;", false)
  | 2 => ("RhymeFerry$Reader", "end", "I", false)
  | 3 => ("RhymeFerry$Reader", "next", "I", false)
  | 4 => ("RhymeFerry$Reader", "begun", "Z", false)
  | 5 => ("RhymeFerry$Reader", "knowings", "I", false)
  | 6 => ("RhymeFerry$Reader", "sort", "I", false)
  | 7 => ("RhymeFerry$Reader", "place", "I", false)
  | 8 => ("RhymeFerry$Reader", "length", "I", false)
  | 9 => ("RhymeFerry$Reader", "letters", "J", false)
  | 10 => ("RhymeFerry$Reader", "whole", "I", false)
  | 11 => ("RhymeFerry$Reader", "name", "J", false)
  | 12 => ("RhymeFerry$Reader", "sounds", "J", false)
  | 13 => ("RhymeFerry$Reader", "number", "I", false)
  | 14 => ("RhymeFerry$Reader", "found", "I", false)
  | 15 => ("RhymeFerry$Reader", "fault", "I", false)
  | _ => ("RhymeFerry$Reader", "faultPlace", "I", false)
def tyX5 : Nat → FieldType := fun k => match k with
  | 0 => .array .byte
  | 1 => .object "RhymeFerry$Tale"
  | 2 => .int
  | 3 => .int
  | 4 => .boolean
  | 5 => .int
  | 6 => .int
  | 7 => .int
  | 8 => .int
  | 9 => .long
  | 10 => .int
  | 11 => .long
  | 12 => .long
  | 13 => .int
  | 14 => .int
  | 15 => .int
  | _ => .int
abbrev wsX50 : List Cond := u_ws RX5 TX5 17
theorem nmX5 : ∀ a, a < 17 → ∀ b, b < 17 → a ≠ b → (TX5 a).2.1 ≠ (TX5 b).2.1 := by decide +kernel
theorem tyX5_ok : ∀ k, k < 17 → parseFieldDescriptor (TX5 k).2.2.1 = some (tyX5 k) := by decide +kernel
abbrev cX5_init : ByteArray := prog_7_method_1_code
def yX5_init : MethodName := ⟨RX5, "<init>", "([BLRhymeFerry$Tale;)V"⟩
abbrev cX5_read : ByteArray := prog_7_method_2_code
def yX5_read : MethodName := ⟨RX5, "read", "(LRhymeFerry$Tale;I)V"⟩
abbrev cX5_fail : ByteArray := prog_7_method_3_code
def yX5_fail : MethodName := ⟨RX5, "fail", "(I)Z"⟩
abbrev cX5_look : ByteArray := prog_7_method_4_code
def yX5_look : MethodName := ⟨RX5, "look", "()V"⟩
abbrev cX5_lookAtLetters : ByteArray := prog_7_method_5_code
def yX5_lookAtLetters : MethodName := ⟨RX5, "lookAtLetters", "()V"⟩
abbrev cX5_lookAtDigits : ByteArray := prog_7_method_6_code
def yX5_lookAtDigits : MethodName := ⟨RX5, "lookAtDigits", "()V"⟩
abbrev cX5_is : ByteArray := prog_7_method_7_code
def yX5_is : MethodName := ⟨RX5, "is", "(Ljava/lang/String;)Z"⟩
abbrev cX5_lineBegun : ByteArray := prog_7_method_8_code
def yX5_lineBegun : MethodName := ⟨RX5, "lineBegun", "()I"⟩
abbrev cX5_isRoomFor : ByteArray := prog_7_method_9_code
def yX5_isRoomFor : MethodName := ⟨RX5, "isRoomFor", "(I)Z"⟩
abbrev cX5_readLine : ByteArray := prog_7_method_10_code
def yX5_readLine : MethodName := ⟨RX5, "readLine", "()Z"⟩
abbrev cX5_readFerry : ByteArray := prog_7_method_11_code
def yX5_readFerry : MethodName := ⟨RX5, "readFerry", "()Z"⟩
abbrev cX5_readWord : ByteArray := prog_7_method_12_code
def yX5_readWord : MethodName := ⟨RX5, "readWord", "()Z"⟩
abbrev cX5_readPerson : ByteArray := prog_7_method_13_code
def yX5_readPerson : MethodName := ⟨RX5, "readPerson", "()Z"⟩
abbrev cX5_readKnows : ByteArray := prog_7_method_14_code
def yX5_readKnows : MethodName := ⟨RX5, "readKnows", "()Z"⟩
abbrev cX5_readAlike : ByteArray := prog_7_method_15_code
def yX5_readAlike : MethodName := ⟨RX5, "readAlike", "()Z"⟩
abbrev cX5_readHour : ByteArray := prog_7_method_16_code
def yX5_readHour : MethodName := ⟨RX5, "readHour", "()Z"⟩
abbrev cX5_readErrand : ByteArray := prog_7_method_17_code
def yX5_readErrand : MethodName := ⟨RX5, "readErrand", "()Z"⟩
abbrev cX5_readGot : ByteArray := prog_7_method_18_code
def yX5_readGot : MethodName := ⟨RX5, "readGot", "()Z"⟩
abbrev cX5_takes : ByteArray := prog_7_method_19_code
def yX5_takes : MethodName := ⟨RX5, "takes", "(Ljava/lang/String;)Z"⟩
abbrev cX5_seesWhole : ByteArray := prog_7_method_20_code
def yX5_seesWhole : MethodName := ⟨RX5, "seesWhole", "(II)Z"⟩
abbrev cX5_takesWhole : ByteArray := prog_7_method_21_code
def yX5_takesWhole : MethodName := ⟨RX5, "takesWhole", "(II)Z"⟩
abbrev cX5_takesNewName : ByteArray := prog_7_method_22_code
def yX5_takesNewName : MethodName := ⟨RX5, "takesNewName", "()Z"⟩
abbrev cX5_takesSounds : ByteArray := prog_7_method_23_code
def yX5_takesSounds : MethodName := ⟨RX5, "takesSounds", "()Z"⟩
abbrev cX5_seesLetter : ByteArray := prog_7_method_24_code
def yX5_seesLetter : MethodName := ⟨RX5, "seesLetter", "()Z"⟩
abbrev cX5_seesToldWord : ByteArray := prog_7_method_25_code
def yX5_seesToldWord : MethodName := ⟨RX5, "seesToldWord", "()Z"⟩
abbrev cX5_seesToldPerson : ByteArray := prog_7_method_26_code
def yX5_seesToldPerson : MethodName := ⟨RX5, "seesToldPerson", "()Z"⟩
def RX6 : String := "RhymeFerry$Rhymes"
def TX6 : u_T := fun k => match k with
  | 0 => ("RhymeFerry$Rhymes", "now", "LRhymeFerry$Now;", true)
  | 1 => ("RhymeFerry$Rhymes", "links", "[I", true)
  | _ => ("RhymeFerry$Rhymes", "tale", "LRhymeFerry$Tale;", false)
def tyX6 : Nat → FieldType := fun k => match k with
  | 0 => .object "RhymeFerry$Now"
  | 1 => .array .int
  | _ => .object "RhymeFerry$Tale"
abbrev wsX60 : List Cond := u_ws RX6 TX6 3
theorem nmX6 : ∀ a, a < 3 → ∀ b, b < 3 → a ≠ b → (TX6 a).2.1 ≠ (TX6 b).2.1 := by decide +kernel
theorem tyX6_ok : ∀ k, k < 3 → parseFieldDescriptor (TX6 k).2.2.1 = some (tyX6 k) := by decide +kernel
abbrev cX6_init : ByteArray := prog_8_method_1_code
def yX6_init : MethodName := ⟨RX6, "<init>", "(LRhymeFerry$Now;)V"⟩
abbrev cX6_degree : ByteArray := prog_8_method_2_code
def yX6_degree : MethodName := ⟨RX6, "degree", "(III)I"⟩
abbrev cX6_metBy : ByteArray := prog_8_method_3_code
def yX6_metBy : MethodName := ⟨RX6, "metBy", "(IIII)I"⟩
abbrev cX6_metNow : ByteArray := prog_8_method_4_code
def yX6_metNow : MethodName := ⟨RX6, "metNow", "(II)I"⟩
abbrev cX6_metHaving : ByteArray := prog_8_method_5_code
def yX6_metHaving : MethodName := ⟨RX6, "metHaving", "(III)I"⟩
abbrev cX6_link : ByteArray := prog_8_method_6_code
def yX6_link : MethodName := ⟨RX6, "link", "(I)V"⟩
abbrev cX6_groupOf : ByteArray := prog_8_method_7_code
def yX6_groupOf : MethodName := ⟨RX6, "groupOf", "(I)I"⟩
abbrev cX6_groupCount : ByteArray := prog_8_method_8_code
def yX6_groupCount : MethodName := ⟨RX6, "groupCount", "()I"⟩
abbrev cX6_hourOfMost : ByteArray := prog_8_method_9_code
def yX6_hourOfMost : MethodName := ⟨RX6, "hourOfMost", "(I)I"⟩
abbrev cX6_wordOfMost : ByteArray := prog_8_method_10_code
def yX6_wordOfMost : MethodName := ⟨RX6, "wordOfMost", "(II)I"⟩
abbrev cX6_firstHour : ByteArray := prog_8_method_11_code
def yX6_firstHour : MethodName := ⟨RX6, "firstHour", "(II)I"⟩
abbrev cX6_hourCount : ByteArray := prog_8_method_12_code
def yX6_hourCount : MethodName := ⟨RX6, "hourCount", "(II)I"⟩
abbrev cX6_cheapestGain : ByteArray := prog_8_method_13_code
def yX6_cheapestGain : MethodName := ⟨RX6, "cheapestGain", "(II)I"⟩
abbrev cX6_lonely : ByteArray := prog_8_method_14_code
def yX6_lonely : MethodName := ⟨RX6, "lonely", "(II)I"⟩
def RX7 : String := "RhymeFerry$Sellers"
def TX7 : u_T := fun k => match k with
  | 0 => ("RhymeFerry$Sellers", "rhymes", "LRhymeFerry$Rhymes;", true)
  | 1 => ("RhymeFerry$Sellers", "firstsOwn", "I", false)
  | 2 => ("RhymeFerry$Sellers", "secondsOwn", "I", false)
  | _ => ("RhymeFerry$Sellers", "shared", "I", false)
def tyX7 : Nat → FieldType := fun k => match k with
  | 0 => .object "RhymeFerry$Rhymes"
  | 1 => .int
  | 2 => .int
  | _ => .int
abbrev wsX70 : List Cond := u_ws RX7 TX7 4
theorem nmX7 : ∀ a, a < 4 → ∀ b, b < 4 → a ≠ b → (TX7 a).2.1 ≠ (TX7 b).2.1 := by decide +kernel
theorem tyX7_ok : ∀ k, k < 4 → parseFieldDescriptor (TX7 k).2.2.1 = some (tyX7 k) := by decide +kernel
abbrev cX7_init : ByteArray := prog_9_method_1_code
def yX7_init : MethodName := ⟨RX7, "<init>", "(LRhymeFerry$Rhymes;)V"⟩
abbrev cX7_countBuyers : ByteArray := prog_9_method_2_code
def yX7_countBuyers : MethodName := ⟨RX7, "countBuyers", "(III)V"⟩
abbrev cX7_firstHas : ByteArray := prog_9_method_3_code
def yX7_firstHas : MethodName := ⟨RX7, "firstHas", "(II)I"⟩
abbrev cX7_secondHas : ByteArray := prog_9_method_4_code
def yX7_secondHas : MethodName := ⟨RX7, "secondHas", "(II)I"⟩
abbrev cX7_isRest : ByteArray := prog_9_method_5_code
def yX7_isRest : MethodName := ⟨RX7, "isRest", "(II)Z"⟩
abbrev cX7_restCount : ByteArray := prog_9_method_6_code
def yX7_restCount : MethodName := ⟨RX7, "restCount", "()I"⟩
abbrev cX7_firstRest : ByteArray := prog_9_method_7_code
def yX7_firstRest : MethodName := ⟨RX7, "firstRest", "()I"⟩
def RX8 : String := "RhymeFerry$Shelf"
def TX8 : u_T := fun k => match k with
  | 0 => ("RhymeFerry$Shelf", "room", "I", true)
  | 1 => ("RhymeFerry$Shelf", "cells", "[I", true)
  | 2 => ("RhymeFerry$Shelf", "first", "I", false)
  | _ => ("RhymeFerry$Shelf", "count", "I", false)
def tyX8 : Nat → FieldType := fun k => match k with
  | 0 => .int
  | 1 => .array .int
  | 2 => .int
  | _ => .int
abbrev wsX80 : List Cond := u_ws RX8 TX8 4
theorem nmX8 : ∀ a, a < 4 → ∀ b, b < 4 → a ≠ b → (TX8 a).2.1 ≠ (TX8 b).2.1 := by decide +kernel
theorem tyX8_ok : ∀ k, k < 4 → parseFieldDescriptor (TX8 k).2.2.1 = some (tyX8 k) := by decide +kernel
abbrev cX8_init : ByteArray := prog_10_method_1_code
def yX8_init : MethodName := ⟨RX8, "<init>", "(I)V"⟩
abbrev cX8_clear : ByteArray := prog_10_method_2_code
def yX8_clear : MethodName := ⟨RX8, "clear", "()V"⟩
abbrev cX8_push : ByteArray := prog_10_method_3_code
def yX8_push : MethodName := ⟨RX8, "push", "(LRhymeFerry$Now;)V"⟩
abbrev cX8_copyTo : ByteArray := prog_10_method_4_code
def yX8_copyTo : MethodName := ⟨RX8, "copyTo", "(ILRhymeFerry$Now;)V"⟩
abbrev cX8_pop : ByteArray := prog_10_method_5_code
def yX8_pop : MethodName := ⟨RX8, "pop", "(LRhymeFerry$Now;)V"⟩
abbrev cX8_placeOf : ByteArray := prog_10_method_6_code
def yX8_placeOf : MethodName := ⟨RX8, "placeOf", "(I)I"⟩
def RX9 : String := "RhymeFerry$Tale"
def TX9 : u_T := fun k => match k with
  | 0 => ("RhymeFerry$Tale", "wordNames", "[J", true)
  | 1 => ("RhymeFerry$Tale", "sounds", "[J", true)
  | 2 => ("RhymeFerry$Tale", "prices", "[I", true)
  | 3 => ("RhymeFerry$Tale", "personNames", "[J", true)
  | 4 => ("RhymeFerry$Tale", "kinds", "[I", true)
  | 5 => ("RhymeFerry$Tale", "firstWords", "[I", true)
  | 6 => ("RhymeFerry$Tale", "errands", "[I", true)
  | 7 => ("RhymeFerry$Tale", "alikes", "[I", true)
  | 8 => ("RhymeFerry$Tale", "hourEars", "[I", true)
  | 9 => ("RhymeFerry$Tale", "gotFirst", "[I", true)
  | 10 => ("RhymeFerry$Tale", "gotSecond", "[I", true)
  | 11 => ("RhymeFerry$Tale", "gotDegree", "[I", true)
  | 12 => ("RhymeFerry$Tale", "close", "[I", true)
  | 13 => ("RhymeFerry$Tale", "ear", "I", false)
  | 14 => ("RhymeFerry$Tale", "pairs", "I", false)
  | 15 => ("RhymeFerry$Tale", "wordCount", "I", false)
  | 16 => ("RhymeFerry$Tale", "personCount", "I", false)
  | 17 => ("RhymeFerry$Tale", "firstFar", "I", false)
  | 18 => ("RhymeFerry$Tale", "alikeCount", "I", false)
  | _ => ("RhymeFerry$Tale", "gotCount", "I", false)
def tyX9 : Nat → FieldType := fun k => match k with
  | 0 => .array .long
  | 1 => .array .long
  | 2 => .array .int
  | 3 => .array .long
  | 4 => .array .int
  | 5 => .array .int
  | 6 => .array .int
  | 7 => .array .int
  | 8 => .array .int
  | 9 => .array .int
  | 10 => .array .int
  | 11 => .array .int
  | 12 => .array .int
  | 13 => .int
  | 14 => .int
  | 15 => .int
  | 16 => .int
  | 17 => .int
  | 18 => .int
  | _ => .int
abbrev wsX90 : List Cond := u_ws RX9 TX9 20
theorem nmX9 : ∀ a, a < 20 → ∀ b, b < 20 → a ≠ b → (TX9 a).2.1 ≠ (TX9 b).2.1 := by decide +kernel
theorem tyX9_ok : ∀ k, k < 20 → parseFieldDescriptor (TX9 k).2.2.1 = some (tyX9 k) := by decide +kernel
abbrev cX9_init : ByteArray := prog_11_method_1_code
def yX9_init : MethodName := ⟨RX9, "<init>", "()V"⟩
abbrev cX9_forget : ByteArray := prog_11_method_2_code
def yX9_forget : MethodName := ⟨RX9, "forget", "()V"⟩
abbrev cX9_addWord : ByteArray := prog_11_method_3_code
def yX9_addWord : MethodName := ⟨RX9, "addWord", "(JJI)V"⟩
abbrev cX9_addPerson : ByteArray := prog_11_method_4_code
def yX9_addPerson : MethodName := ⟨RX9, "addPerson", "(JIZI)V"⟩
abbrev cX9_addAlike : ByteArray := prog_11_method_5_code
def yX9_addAlike : MethodName := ⟨RX9, "addAlike", "(II)V"⟩
abbrev cX9_addGot : ByteArray := prog_11_method_6_code
def yX9_addGot : MethodName := ⟨RX9, "addGot", "(III)V"⟩
abbrev cX9_wordNamed : ByteArray := prog_11_method_7_code
def yX9_wordNamed : MethodName := ⟨RX9, "wordNamed", "(J)I"⟩
abbrev cX9_personNamed : ByteArray := prog_11_method_8_code
def yX9_personNamed : MethodName := ⟨RX9, "personNamed", "(J)I"⟩
abbrev cX9_isAlike : ByteArray := prog_11_method_9_code
def yX9_isAlike : MethodName := ⟨RX9, "isAlike", "(II)Z"⟩
abbrev cX9_earAt : ByteArray := prog_11_method_10_code
def yX9_earAt : MethodName := ⟨RX9, "earAt", "(I)I"⟩
abbrev cX9_hoursTold : ByteArray := prog_11_method_11_code
def yX9_hoursTold : MethodName := ⟨RX9, "hoursTold", "()I"⟩
abbrev cX9_errandsTold : ByteArray := prog_11_method_12_code
def yX9_errandsTold : MethodName := ⟨RX9, "errandsTold", "()I"⟩
abbrev cX9_lettersOf : ByteArray := prog_11_method_13_code
def yX9_lettersOf : MethodName := ⟨RX9, "lettersOf", "(J)I"⟩
abbrev cX9_common : ByteArray := prog_11_method_14_code
def yX9_common : MethodName := ⟨RX9, "common", "(III)I"⟩
abbrev cX9_compareWords : ByteArray := prog_11_method_15_code
def yX9_compareWords : MethodName := ⟨RX9, "compareWords", "()V"⟩
abbrev cX9_noteCommon : ByteArray := prog_11_method_16_code
def yX9_noteCommon : MethodName := ⟨RX9, "noteCommon", "(III)V"⟩
abbrev cX9_rhymingWords : ByteArray := prog_11_method_17_code
def yX9_rhymingWords : MethodName := ⟨RX9, "rhymingWords", "(IIII)I"⟩
abbrev cX9_isFullRhyme : ByteArray := prog_11_method_18_code
def yX9_isFullRhyme : MethodName := ⟨RX9, "isFullRhyme", "(IIIII)Z"⟩
abbrev cX9_degree : ByteArray := prog_11_method_19_code
def yX9_degree : MethodName := ⟨RX9, "degree", "(IIIII)I"⟩
def RX10 : String := "RhymeFerry"
def TX10 : u_T := fun k => match k with
  | 0 => ("RhymeFerry", "tape", "[B", true)
  | 1 => ("RhymeFerry", "now", "LRhymeFerry$Now;", true)
  | 2 => ("RhymeFerry", "rhymes", "LRhymeFerry$Rhymes;", true)
  | 3 => ("RhymeFerry", "pairing", "LRhymeFerry$Pairing;", true)
  | 4 => ("RhymeFerry", "purse", "LRhymeFerry$Purse;", true)
  | 5 => ("RhymeFerry", "hearing", "LRhymeFerry$Hearing;", true)
  | 6 => ("RhymeFerry", "sellers", "LRhymeFerry$Sellers;", true)
  | 7 => ("RhymeFerry", "days", "LRhymeFerry$Days;", true)
  | 8 => ("RhymeFerry", "acts", "LRhymeFerry$Shelf;", true)
  | 9 => ("RhymeFerry", "images", "LRhymeFerry$Shelf;", true)
  | 10 => ("RhymeFerry", "tale", "LRhymeFerry$Tale;", false)
  | 11 => ("RhymeFerry", "draft", "LRhymeFerry$Tale;", false)
  | 12 => ("RhymeFerry", "reader", "LRhymeFerry$Reader;", true)
  | 13 => ("RhymeFerry", "tapeLength", "I", false)
  | 14 => ("RhymeFerry", "lastFault", "I", false)
  | 15 => ("RhymeFerry", "faultPlace", "I", false)
  | _ => ("RhymeFerry", "lastTrouble", "I", false)
def tyX10 : Nat → FieldType := fun k => match k with
  | 0 => .array .byte
  | 1 => .object "RhymeFerry$Now"
  | 2 => .object "RhymeFerry$Rhymes"
  | 3 => .object "RhymeFerry$Pairing"
  | 4 => .object "RhymeFerry$Purse"
  | 5 => .object "RhymeFerry$Hearing"
  | 6 => .object "RhymeFerry$Sellers"
  | 7 => .object "RhymeFerry$Days"
  | 8 => .object "RhymeFerry$Shelf"
  | 9 => .object "RhymeFerry$Shelf"
  | 10 => .object "RhymeFerry$Tale"
  | 11 => .object "RhymeFerry$Tale"
  | 12 => .object "RhymeFerry$Reader"
  | 13 => .int
  | 14 => .int
  | 15 => .int
  | _ => .int
abbrev wsX100 : List Cond := u_ws RX10 TX10 17
theorem nmX10 : ∀ a, a < 17 → ∀ b, b < 17 → a ≠ b → (TX10 a).2.1 ≠ (TX10 b).2.1 := by decide +kernel
theorem tyX10_ok : ∀ k, k < 17 → parseFieldDescriptor (TX10 k).2.2.1 = some (tyX10 k) := by decide +kernel
abbrev cX10_init : ByteArray := prog_1_method_1_code
def yX10_init : MethodName := ⟨RX10, "<init>", "()V"⟩
abbrev cX10_feed : ByteArray := prog_1_method_2_code
def yX10_feed : MethodName := ⟨RX10, "feed", "(IIIII)I"⟩
abbrev cX10_ferry : ByteArray := prog_1_method_3_code
def yX10_ferry : MethodName := ⟨RX10, "ferry", "(I)I"⟩
abbrev cX10_fault : ByteArray := prog_1_method_4_code
def yX10_fault : MethodName := ⟨RX10, "fault", "()I"⟩
abbrev cX10_where : ByteArray := prog_1_method_5_code
def yX10_where : MethodName := ⟨RX10, "where", "()I"⟩
abbrev cX10_word : ByteArray := prog_1_method_6_code
def yX10_word : MethodName := ⟨RX10, "word", "(II)I"⟩
abbrev cX10_like : ByteArray := prog_1_method_7_code
def yX10_like : MethodName := ⟨RX10, "like", "(II)I"⟩
abbrev cX10_eye : ByteArray := prog_1_method_8_code
def yX10_eye : MethodName := ⟨RX10, "eye", "(II)I"⟩
abbrev cX10_person : ByteArray := prog_1_method_9_code
def yX10_person : MethodName := ⟨RX10, "person", "(II)I"⟩
abbrev cX10_ear : ByteArray := prog_1_method_10_code
def yX10_ear : MethodName := ⟨RX10, "ear", "(I)I"⟩
abbrev cX10_rhyme : ByteArray := prog_1_method_11_code
def yX10_rhyme : MethodName := ⟨RX10, "rhyme", "(III)I"⟩
abbrev cX10_with : ByteArray := prog_1_method_12_code
def yX10_with : MethodName := ⟨RX10, "with", "(II)I"⟩
abbrev cX10_bestHour : ByteArray := prog_1_method_13_code
def yX10_bestHour : MethodName := ⟨RX10, "bestHour", "(I)I"⟩
abbrev cX10_classOf : ByteArray := prog_1_method_14_code
def yX10_classOf : MethodName := ⟨RX10, "classOf", "(II)I"⟩
abbrev cX10_classes : ByteArray := prog_1_method_15_code
def yX10_classes : MethodName := ⟨RX10, "classes", "(I)I"⟩
abbrev cX10_bestName : ByteArray := prog_1_method_16_code
def yX10_bestName : MethodName := ⟨RX10, "bestName", "(II)I"⟩
abbrev cX10_renamed : ByteArray := prog_1_method_17_code
def yX10_renamed : MethodName := ⟨RX10, "renamed", "(III)I"⟩
abbrev cX10_meets : ByteArray := prog_1_method_18_code
def yX10_meets : MethodName := ⟨RX10, "meets", "(II)I"⟩
abbrev cX10_often : ByteArray := prog_1_method_19_code
def yX10_often : MethodName := ⟨RX10, "often", "(II)I"⟩
abbrev cX10_cheapest : ByteArray := prog_1_method_20_code
def yX10_cheapest : MethodName := ⟨RX10, "cheapest", "(II)I"⟩
abbrev cX10_pairs : ByteArray := prog_1_method_21_code
def yX10_pairs : MethodName := ⟨RX10, "pairs", "(II)I"⟩
abbrev cX10_partner : ByteArray := prog_1_method_22_code
def yX10_partner : MethodName := ⟨RX10, "partner", "(III)I"⟩
abbrev cX10_alone : ByteArray := prog_1_method_23_code
def yX10_alone : MethodName := ⟨RX10, "alone", "(II)I"⟩
abbrev cX10_kept : ByteArray := prog_1_method_24_code
def yX10_kept : MethodName := ⟨RX10, "kept", "(I)I"⟩
abbrev cX10_judge : ByteArray := prog_1_method_25_code
def yX10_judge : MethodName := ⟨RX10, "judge", "()I"⟩
abbrev cX10_coins : ByteArray := prog_1_method_26_code
def yX10_coins : MethodName := ⟨RX10, "coins", "(II)I"⟩
abbrev cX10_keep : ByteArray := prog_1_method_27_code
def yX10_keep : MethodName := ⟨RX10, "keep", "(II)I"⟩
abbrev cX10_refrain : ByteArray := prog_1_method_28_code
def yX10_refrain : MethodName := ⟨RX10, "refrain", "(II)I"⟩
abbrev cX10_heard : ByteArray := prog_1_method_29_code
def yX10_heard : MethodName := ⟨RX10, "heard", "()I"⟩
abbrev cX10_heardEar : ByteArray := prog_1_method_30_code
def yX10_heardEar : MethodName := ⟨RX10, "heardEar", "(Z)I"⟩
abbrev cX10_ask : ByteArray := prog_1_method_31_code
def yX10_ask : MethodName := ⟨RX10, "ask", "()I"⟩
abbrev cX10_askLeaves : ByteArray := prog_1_method_32_code
def yX10_askLeaves : MethodName := ⟨RX10, "askLeaves", "()I"⟩
abbrev cX10_sells : ByteArray := prog_1_method_33_code
def yX10_sells : MethodName := ⟨RX10, "sells", "(IIIIIZ)I"⟩
abbrev cX10_rests : ByteArray := prog_1_method_34_code
def yX10_rests : MethodName := ⟨RX10, "rests", "(III)I"⟩
abbrev cX10_rest : ByteArray := prog_1_method_35_code
def yX10_rest : MethodName := ⟨RX10, "rest", "(III)I"⟩
abbrev cX10_day : ByteArray := prog_1_method_36_code
def yX10_day : MethodName := ⟨RX10, "day", "(II)I"⟩
abbrev cX10_crossedIn : ByteArray := prog_1_method_37_code
def yX10_crossedIn : MethodName := ⟨RX10, "crossedIn", "(III)I"⟩
abbrev cX10_cross : ByteArray := prog_1_method_38_code
def yX10_cross : MethodName := ⟨RX10, "cross", "(II)I"⟩
abbrev cX10_buy : ByteArray := prog_1_method_39_code
def yX10_buy : MethodName := ⟨RX10, "buy", "(II)I"⟩
abbrev cX10_hours : ByteArray := prog_1_method_40_code
def yX10_hours : MethodName := ⟨RX10, "hours", "(I)I"⟩
abbrev cX10_undo : ByteArray := prog_1_method_41_code
def yX10_undo : MethodName := ⟨RX10, "undo", "()Z"⟩
abbrev cX10_image : ByteArray := prog_1_method_42_code
def yX10_image : MethodName := ⟨RX10, "image", "()I"⟩
abbrev cX10_back : ByteArray := prog_1_method_43_code
def yX10_back : MethodName := ⟨RX10, "back", "(I)Z"⟩
abbrev cX10_led : ByteArray := prog_1_method_44_code
def yX10_led : MethodName := ⟨RX10, "led", "(I)I"⟩
abbrev cX10_size : ByteArray := prog_1_method_45_code
def yX10_size : MethodName := ⟨RX10, "size", "(I)I"⟩
abbrev cX10_trouble : ByteArray := prog_1_method_46_code
def yX10_trouble : MethodName := ⟨RX10, "trouble", "()I"⟩
abbrev cX10_refused : ByteArray := prog_1_method_47_code
def yX10_refused : MethodName := ⟨RX10, "refused", "(ZZ)Z"⟩
abbrev cX10_refuse : ByteArray := prog_1_method_48_code
def yX10_refuse : MethodName := ⟨RX10, "refuse", "(I)I"⟩
abbrev cX10_hasFerry : ByteArray := prog_1_method_49_code
def yX10_hasFerry : MethodName := ⟨RX10, "hasFerry", "()Z"⟩
abbrev cX10_isWord : ByteArray := prog_1_method_50_code
def yX10_isWord : MethodName := ⟨RX10, "isWord", "(I)Z"⟩
abbrev cX10_isTwoWords : ByteArray := prog_1_method_51_code
def yX10_isTwoWords : MethodName := ⟨RX10, "isTwoWords", "(II)Z"⟩
abbrev cX10_isPerson : ByteArray := prog_1_method_52_code
def yX10_isPerson : MethodName := ⟨RX10, "isPerson", "(I)Z"⟩
abbrev cX10_isPair : ByteArray := prog_1_method_53_code
def yX10_isPair : MethodName := ⟨RX10, "isPair", "(II)Z"⟩
abbrev cX10_isBank : ByteArray := prog_1_method_54_code
def yX10_isBank : MethodName := ⟨RX10, "isBank", "(I)Z"⟩
abbrev cX10_isHour : ByteArray := prog_1_method_55_code
def yX10_isHour : MethodName := ⟨RX10, "isHour", "(I)Z"⟩
abbrev cX10_isPrice : ByteArray := prog_1_method_56_code
def yX10_isPrice : MethodName := ⟨RX10, "isPrice", "(I)Z"⟩
abbrev cX10_isDay : ByteArray := prog_1_method_57_code
def yX10_isDay : MethodName := ⟨RX10, "isDay", "(II)Z"⟩
abbrev cX10_append : ByteArray := prog_1_method_58_code
def yX10_append : MethodName := ⟨RX10, "append", "(I)V"⟩
abbrev cX10_holds : ByteArray := prog_1_method_59_code
def yX10_holds : MethodName := ⟨RX10, "holds", "(II)Z"⟩
def RX11 : String := "RhymeFerryModel"
def TX11 : u_T := fun k => match k with
  | 0 => ("RhymeFerryModel", "thrown", "I", false)
  | 1 => ("RhymeFerryModel", "tape", "[I", true)
  | 2 => ("RhymeFerryModel", "taped", "I", false)
  | 3 => ("RhymeFerryModel", "size", "I", false)
  | 4 => ("RhymeFerryModel", "at", "I", false)
  | 5 => ("RhymeFerryModel", "end", "I", false)
  | 6 => ("RhymeFerryModel", "token", "I", false)
  | 7 => ("RhymeFerryModel", "whole", "I", false)
  | 8 => ("RhymeFerryModel", "nameSize", "I", false)
  | 9 => ("RhymeFerryModel", "fault", "I", false)
  | 10 => ("RhymeFerryModel", "place", "I", false)
  | 11 => ("RhymeFerryModel", "trouble", "I", false)
  | 12 => ("RhymeFerryModel", "letters", "[I", true)
  | 13 => ("RhymeFerryModel", "failed", "Z", false)
  | 14 => ("RhymeFerryModel", "hasFerry", "Z", false)
  | 15 => ("RhymeFerryModel", "\x72", "[I", true)
  | 16 => ("RhymeFerryModel", "fresh", "[I", true)
  | 17 => ("RhymeFerryModel", "st", "[I", true)
  | 18 => ("RhymeFerryModel", "undone", "[I", true)
  | 19 => ("RhymeFerryModel", "kept", "[I", true)
  | 20 => ("RhymeFerryModel", "undos", "I", false)
  | 21 => ("RhymeFerryModel", "images", "I", false)
  | 22 => ("RhymeFerryModel", "can", "[I", true)
  | 23 => ("RhymeFerryModel", "now", "[I", true)
  | 24 => ("RhymeFerryModel", "best", "[I", true)
  | 25 => ("RhymeFerryModel", "bestMany", "I", false)
  | 26 => ("RhymeFerryModel", "seats", "[I", true)
  | 27 => ("RhymeFerryModel", "mostKept", "I", false)
  | 28 => ("RhymeFerryModel", "costs", "[I", true)
  | 29 => ("RhymeFerryModel", "leastCoins", "I", false)
  | 30 => ("RhymeFerryModel", "covers", "[I", true)
  | 31 => ("RhymeFerryModel", "leftThen", "I", false)
  | 32 => ("RhymeFerryModel", "onlyOne", "I", false)
  | 33 => ("RhymeFerryModel", "onlyOther", "I", false)
  | 34 => ("RhymeFerryModel", "either", "I", false)
  | 35 => ("RhymeFerryModel", "firstRest", "I", false)
  | _ => ("RhymeFerryModel", "hourOf", "[I", true)
def tyX11 : Nat → FieldType := fun k => match k with
  | 0 => .int
  | 1 => .array .int
  | 2 => .int
  | 3 => .int
  | 4 => .int
  | 5 => .int
  | 6 => .int
  | 7 => .int
  | 8 => .int
  | 9 => .int
  | 10 => .int
  | 11 => .int
  | 12 => .array .int
  | 13 => .boolean
  | 14 => .boolean
  | 15 => .array .int
  | 16 => .array .int
  | 17 => .array .int
  | 18 => .array .int
  | 19 => .array .int
  | 20 => .int
  | 21 => .int
  | 22 => .array .int
  | 23 => .array .int
  | 24 => .array .int
  | 25 => .int
  | 26 => .array .int
  | 27 => .int
  | 28 => .array .int
  | 29 => .int
  | 30 => .array .int
  | 31 => .int
  | 32 => .int
  | 33 => .int
  | 34 => .int
  | 35 => .int
  | _ => .array .int
abbrev wsX110 : List Cond := u_ws RX11 TX11 37
theorem nmX11 : ∀ a, a < 37 → ∀ b, b < 37 → a ≠ b → (TX11 a).2.1 ≠ (TX11 b).2.1 := by decide +kernel
theorem tyX11_ok : ∀ k, k < 37 → parseFieldDescriptor (TX11 k).2.2.1 = some (tyX11 k) := by decide +kernel
abbrev cX11_init : ByteArray := prog_13_method_1_code
def yX11_init : MethodName := ⟨RX11, "<init>", "()V"⟩
abbrev cX11_thrown : ByteArray := prog_13_method_2_code
def yX11_thrown : MethodName := ⟨RX11, "thrown", "()I"⟩
abbrev cX11_good : ByteArray := prog_13_method_3_code
def yX11_good : MethodName := ⟨RX11, "good", "()V"⟩
abbrev cX11_no : ByteArray := prog_13_method_4_code
def yX11_no : MethodName := ⟨RX11, "no", "(I)I"⟩
abbrev cX11_isNot : ByteArray := prog_13_method_5_code
def yX11_isNot : MethodName := ⟨RX11, "isNot", "(I)Z"⟩
abbrev cX11_in : ByteArray := prog_13_method_6_code
def yX11_in : MethodName := ⟨RX11, "in", "(III)Z"⟩
abbrev cX11_hasBit : ByteArray := prog_13_method_7_code
def yX11_hasBit : MethodName := ⟨RX11, "hasBit", "(II)Z"⟩
abbrev cX11_ones : ByteArray := prog_13_method_8_code
def yX11_ones : MethodName := ⟨RX11, "ones", "(I)I"⟩
abbrev cX11_copy : ByteArray := prog_13_method_9_code
def yX11_copy : MethodName := ⟨RX11, "copy", "([II[III)V"⟩
abbrev cX11_feed : ByteArray := prog_13_method_10_code
def yX11_feed : MethodName := ⟨RX11, "feed", "(IIIII)I"⟩
abbrev cX11_look : ByteArray := prog_13_method_11_code
def yX11_look : MethodName := ⟨RX11, "look", "(I)I"⟩
abbrev cX11_isSmall : ByteArray := prog_13_method_12_code
def yX11_isSmall : MethodName := ⟨RX11, "isSmall", "(I)Z"⟩
abbrev cX11_isDigit : ByteArray := prog_13_method_13_code
def yX11_isDigit : MethodName := ⟨RX11, "isDigit", "(I)Z"⟩
abbrev cX11_next : ByteArray := prog_13_method_14_code
def yX11_next : MethodName := ⟨RX11, "next", "()V"⟩
abbrev cX11_wrong : ByteArray := prog_13_method_15_code
def yX11_wrong : MethodName := ⟨RX11, "wrong", "(II)V"⟩
abbrev cX11_isWord : ByteArray := prog_13_method_16_code
def yX11_isWord : MethodName := ⟨RX11, "isWord", "(Ljava/lang/String;)Z"⟩
abbrev cX11_takesWord : ByteArray := prog_13_method_17_code
def yX11_takesWord : MethodName := ⟨RX11, "takesWord", "(Ljava/lang/String;)Z"⟩
abbrev cX11_must : ByteArray := prog_13_method_18_code
def yX11_must : MethodName := ⟨RX11, "must", "(Ljava/lang/String;)V"⟩
abbrev cX11_mustName : ByteArray := prog_13_method_19_code
def yX11_mustName : MethodName := ⟨RX11, "mustName", "()V"⟩
abbrev cX11_find : ByteArray := prog_13_method_20_code
def yX11_find : MethodName := ⟨RX11, "find", "()I"⟩
abbrev cX11_newName : ByteArray := prog_13_method_21_code
def yX11_newName : MethodName := ⟨RX11, "newName", "(I)V"⟩
abbrev cX11_named : ByteArray := prog_13_method_22_code
def yX11_named : MethodName := ⟨RX11, "named", "(II)I"⟩
abbrev cX11_wordHere : ByteArray := prog_13_method_23_code
def yX11_wordHere : MethodName := ⟨RX11, "wordHere", "()I"⟩
abbrev cX11_personHere : ByteArray := prog_13_method_24_code
def yX11_personHere : MethodName := ⟨RX11, "personHere", "()I"⟩
abbrev cX11_personPassed : ByteArray := prog_13_method_25_code
def yX11_personPassed : MethodName := ⟨RX11, "personPassed", "()I"⟩
abbrev cX11_numberHere : ByteArray := prog_13_method_26_code
def yX11_numberHere : MethodName := ⟨RX11, "numberHere", "(II)I"⟩
abbrev cX11_number : ByteArray := prog_13_method_27_code
def yX11_number : MethodName := ⟨RX11, "number", "(II)I"⟩
abbrev cX11_after : ByteArray := prog_13_method_28_code
def yX11_after : MethodName := ⟨RX11, "after", "(Ljava/lang/String;II)I"⟩
abbrev cX11_oneOf : ByteArray := prog_13_method_29_code
def yX11_oneOf : MethodName := ⟨RX11, "oneOf", "(Ljava/lang/String;Ljava/lang/String;Ljava/lang/String;Ljava/lang/String;)I"⟩
abbrev cX11_ferry : ByteArray := prog_13_method_30_code
def yX11_ferry : MethodName := ⟨RX11, "ferry", "(I)I"⟩
abbrev cX11_begins : ByteArray := prog_13_method_31_code
def yX11_begins : MethodName := ⟨RX11, "begins", "(Ljava/lang/String;Z)Z"⟩
abbrev cX11_readLine : ByteArray := prog_13_method_32_code
def yX11_readLine : MethodName := ⟨RX11, "readLine", "()V"⟩
abbrev cX11_ferryLine : ByteArray := prog_13_method_33_code
def yX11_ferryLine : MethodName := ⟨RX11, "ferryLine", "()V"⟩
abbrev cX11_areLetters : ByteArray := prog_13_method_34_code
def yX11_areLetters : MethodName := ⟨RX11, "areLetters", "()Z"⟩
abbrev cX11_wordLine : ByteArray := prog_13_method_35_code
def yX11_wordLine : MethodName := ⟨RX11, "wordLine", "()V"⟩
abbrev cX11_personLine : ByteArray := prog_13_method_36_code
def yX11_personLine : MethodName := ⟨RX11, "personLine", "()V"⟩
abbrev cX11_knowsLine : ByteArray := prog_13_method_37_code
def yX11_knowsLine : MethodName := ⟨RX11, "knowsLine", "()V"⟩
abbrev cX11_letterHere : ByteArray := prog_13_method_38_code
def yX11_letterHere : MethodName := ⟨RX11, "letterHere", "()I"⟩
abbrev cX11_alikeLine : ByteArray := prog_13_method_39_code
def yX11_alikeLine : MethodName := ⟨RX11, "alikeLine", "()V"⟩
abbrev cX11_hourLine : ByteArray := prog_13_method_40_code
def yX11_hourLine : MethodName := ⟨RX11, "hourLine", "()V"⟩
abbrev cX11_errandLine : ByteArray := prog_13_method_41_code
def yX11_errandLine : MethodName := ⟨RX11, "errandLine", "()V"⟩
abbrev cX11_gotLine : ByteArray := prog_13_method_42_code
def yX11_gotLine : MethodName := ⟨RX11, "gotLine", "()V"⟩
abbrev cX11_fault : ByteArray := prog_13_method_43_code
def yX11_fault : MethodName := ⟨RX11, "fault", "()I"⟩
abbrev cX11_where : ByteArray := prog_13_method_44_code
def yX11_where : MethodName := ⟨RX11, "where", "()I"⟩
abbrev cX11_isWordThere : ByteArray := prog_13_method_45_code
def yX11_isWordThere : MethodName := ⟨RX11, "isWordThere", "(I)Z"⟩
abbrev cX11_isPerson : ByteArray := prog_13_method_46_code
def yX11_isPerson : MethodName := ⟨RX11, "isPerson", "(I)Z"⟩
abbrev cX11_isHour : ByteArray := prog_13_method_47_code
def yX11_isHour : MethodName := ⟨RX11, "isHour", "(I)Z"⟩
abbrev cX11_kindOf : ByteArray := prog_13_method_48_code
def yX11_kindOf : MethodName := ⟨RX11, "kindOf", "(I)I"⟩
abbrev cX11_priceOf : ByteArray := prog_13_method_49_code
def yX11_priceOf : MethodName := ⟨RX11, "priceOf", "(I)I"⟩
abbrev cX11_likeOf : ByteArray := prog_13_method_50_code
def yX11_likeOf : MethodName := ⟨RX11, "likeOf", "(II)I"⟩
abbrev cX11_eyeOf : ByteArray := prog_13_method_51_code
def yX11_eyeOf : MethodName := ⟨RX11, "eyeOf", "(II)I"⟩
abbrev cX11_rhymeOf : ByteArray := prog_13_method_52_code
def yX11_rhymeOf : MethodName := ⟨RX11, "rhymeOf", "(IIIII)I"⟩
abbrev cX11_rhymeNow : ByteArray := prog_13_method_53_code
def yX11_rhymeNow : MethodName := ⟨RX11, "rhymeNow", "(III)I"⟩
abbrev cX11_earAt : ByteArray := prog_13_method_54_code
def yX11_earAt : MethodName := ⟨RX11, "earAt", "(I)I"⟩
abbrev cX11_withBy : ByteArray := prog_13_method_55_code
def yX11_withBy : MethodName := ⟨RX11, "withBy", "(III)I"⟩
abbrev cX11_onBank : ByteArray := prog_13_method_56_code
def yX11_onBank : MethodName := ⟨RX11, "onBank", "(I)I"⟩
abbrev cX11_word : ByteArray := prog_13_method_57_code
def yX11_word : MethodName := ⟨RX11, "word", "(II)I"⟩
abbrev cX11_like : ByteArray := prog_13_method_58_code
def yX11_like : MethodName := ⟨RX11, "like", "(II)I"⟩
abbrev cX11_eye : ByteArray := prog_13_method_59_code
def yX11_eye : MethodName := ⟨RX11, "eye", "(II)I"⟩
abbrev cX11_person : ByteArray := prog_13_method_60_code
def yX11_person : MethodName := ⟨RX11, "person", "(II)I"⟩
abbrev cX11_why : ByteArray := prog_13_method_61_code
def yX11_why : MethodName := ⟨RX11, "why", "(ZI)I"⟩
abbrev cX11_ear : ByteArray := prog_13_method_62_code
def yX11_ear : MethodName := ⟨RX11, "ear", "(I)I"⟩
abbrev cX11_areTwo : ByteArray := prog_13_method_63_code
def yX11_areTwo : MethodName := ⟨RX11, "areTwo", "(II)Z"⟩
abbrev cX11_rhyme : ByteArray := prog_13_method_64_code
def yX11_rhyme : MethodName := ⟨RX11, "rhyme", "(III)I"⟩
abbrev cX11_with : ByteArray := prog_13_method_65_code
def yX11_with : MethodName := ⟨RX11, "with", "(II)I"⟩
abbrev cX11_renamed : ByteArray := prog_13_method_66_code
def yX11_renamed : MethodName := ⟨RX11, "renamed", "(III)I"⟩
abbrev cX11_bestHour : ByteArray := prog_13_method_67_code
def yX11_bestHour : MethodName := ⟨RX11, "bestHour", "(I)I"⟩
abbrev cX11_meets : ByteArray := prog_13_method_68_code
def yX11_meets : MethodName := ⟨RX11, "meets", "(II)I"⟩
abbrev cX11_often : ByteArray := prog_13_method_69_code
def yX11_often : MethodName := ⟨RX11, "often", "(II)I"⟩
abbrev cX11_classBy : ByteArray := prog_13_method_70_code
def yX11_classBy : MethodName := ⟨RX11, "classBy", "(II)I"⟩
abbrev cX11_classOf : ByteArray := prog_13_method_71_code
def yX11_classOf : MethodName := ⟨RX11, "classOf", "(II)I"⟩
abbrev cX11_classes : ByteArray := prog_13_method_72_code
def yX11_classes : MethodName := ⟨RX11, "classes", "(I)I"⟩
abbrev cX11_bestName : ByteArray := prog_13_method_73_code
def yX11_bestName : MethodName := ⟨RX11, "bestName", "(II)I"⟩
abbrev cX11_cheapest : ByteArray := prog_13_method_74_code
def yX11_cheapest : MethodName := ⟨RX11, "cheapest", "(II)I"⟩
abbrev cX11_layCan : ByteArray := prog_13_method_75_code
def yX11_layCan : MethodName := ⟨RX11, "layCan", "(II)V"⟩
abbrev cX11_tryPairs : ByteArray := prog_13_method_76_code
def yX11_tryPairs : MethodName := ⟨RX11, "tryPairs", "(III)V"⟩
abbrev cX11_seekPairs : ByteArray := prog_13_method_77_code
def yX11_seekPairs : MethodName := ⟨RX11, "seekPairs", "(II)I"⟩
abbrev cX11_bankWhy : ByteArray := prog_13_method_78_code
def yX11_bankWhy : MethodName := ⟨RX11, "bankWhy", "(II)I"⟩
abbrev cX11_pairs : ByteArray := prog_13_method_79_code
def yX11_pairs : MethodName := ⟨RX11, "pairs", "(II)I"⟩
abbrev cX11_partner : ByteArray := prog_13_method_80_code
def yX11_partner : MethodName := ⟨RX11, "partner", "(III)I"⟩
abbrev cX11_aloneBy : ByteArray := prog_13_method_81_code
def yX11_aloneBy : MethodName := ⟨RX11, "aloneBy", "(II)I"⟩
abbrev cX11_alone : ByteArray := prog_13_method_82_code
def yX11_alone : MethodName := ⟨RX11, "alone", "(II)I"⟩
abbrev cX11_isKept : ByteArray := prog_13_method_83_code
def yX11_isKept : MethodName := ⟨RX11, "isKept", "(II)I"⟩
abbrev cX11_tryErrands : ByteArray := prog_13_method_84_code
def yX11_tryErrands : MethodName := ⟨RX11, "tryErrands", "(III)V"⟩
abbrev cX11_kept : ByteArray := prog_13_method_85_code
def yX11_kept : MethodName := ⟨RX11, "kept", "(I)I"⟩
abbrev cX11_wrongGot : ByteArray := prog_13_method_86_code
def yX11_wrongGot : MethodName := ⟨RX11, "wrongGot", "(I)I"⟩
abbrev cX11_judge : ByteArray := prog_13_method_87_code
def yX11_judge : MethodName := ⟨RX11, "judge", "()I"⟩
abbrev cX11_costOf : ByteArray := prog_13_method_88_code
def yX11_costOf : MethodName := ⟨RX11, "costOf", "(III)I"⟩
abbrev cX11_tryCoins : ByteArray := prog_13_method_89_code
def yX11_tryCoins : MethodName := ⟨RX11, "tryCoins", "(II)V"⟩
abbrev cX11_coins : ByteArray := prog_13_method_90_code
def yX11_coins : MethodName := ⟨RX11, "coins", "(II)I"⟩
abbrev cX11_areAllPaired : ByteArray := prog_13_method_91_code
def yX11_areAllPaired : MethodName := ⟨RX11, "areAllPaired", "(III)Z"⟩
abbrev cX11_isPaired : ByteArray := prog_13_method_92_code
def yX11_isPaired : MethodName := ⟨RX11, "isPaired", "(I)Z"⟩
abbrev cX11_keep : ByteArray := prog_13_method_93_code
def yX11_keep : MethodName := ⟨RX11, "keep", "(II)I"⟩
abbrev cX11_refrain : ByteArray := prog_13_method_94_code
def yX11_refrain : MethodName := ⟨RX11, "refrain", "(II)I"⟩
abbrev cX11_heardSet : ByteArray := prog_13_method_95_code
def yX11_heardSet : MethodName := ⟨RX11, "heardSet", "()I"⟩
abbrev cX11_heard : ByteArray := prog_13_method_96_code
def yX11_heard : MethodName := ⟨RX11, "heard", "()I"⟩
abbrev cX11_heardEar : ByteArray := prog_13_method_97_code
def yX11_heardEar : MethodName := ⟨RX11, "heardEar", "(Z)I"⟩
abbrev cX11_leavesBy : ByteArray := prog_13_method_98_code
def yX11_leavesBy : MethodName := ⟨RX11, "leavesBy", "(III)I"⟩
abbrev cX11_askOf : ByteArray := prog_13_method_99_code
def yX11_askOf : MethodName := ⟨RX11, "askOf", "()I"⟩
abbrev cX11_ask : ByteArray := prog_13_method_100_code
def yX11_ask : MethodName := ⟨RX11, "ask", "()I"⟩
abbrev cX11_askLeaves : ByteArray := prog_13_method_101_code
def yX11_askLeaves : MethodName := ⟨RX11, "askLeaves", "()I"⟩
abbrev cX11_layBuyers : ByteArray := prog_13_method_102_code
def yX11_layBuyers : MethodName := ⟨RX11, "layBuyers", "(III)V"⟩
abbrev cX11_sellsOf : ByteArray := prog_13_method_103_code
def yX11_sellsOf : MethodName := ⟨RX11, "sellsOf", "(IIZ)I"⟩
abbrev cX11_sellersWhy : ByteArray := prog_13_method_104_code
def yX11_sellersWhy : MethodName := ⟨RX11, "sellersWhy", "(III)I"⟩
abbrev cX11_sells : ByteArray := prog_13_method_105_code
def yX11_sells : MethodName := ⟨RX11, "sells", "(IIIIIZ)I"⟩
abbrev cX11_isRest : ByteArray := prog_13_method_106_code
def yX11_isRest : MethodName := ⟨RX11, "isRest", "(II)Z"⟩
abbrev cX11_seekRests : ByteArray := prog_13_method_107_code
def yX11_seekRests : MethodName := ⟨RX11, "seekRests", "(III)I"⟩
abbrev cX11_rests : ByteArray := prog_13_method_108_code
def yX11_rests : MethodName := ⟨RX11, "rests", "(III)I"⟩
abbrev cX11_rest : ByteArray := prog_13_method_109_code
def yX11_rest : MethodName := ⟨RX11, "rest", "(III)I"⟩
abbrev cX11_goThrough : ByteArray := prog_13_method_110_code
def yX11_goThrough : MethodName := ⟨RX11, "goThrough", "(II)I"⟩
abbrev cX11_dayWhy : ByteArray := prog_13_method_111_code
def yX11_dayWhy : MethodName := ⟨RX11, "dayWhy", "(ZII)I"⟩
abbrev cX11_day : ByteArray := prog_13_method_112_code
def yX11_day : MethodName := ⟨RX11, "day", "(II)I"⟩
abbrev cX11_crossedIn : ByteArray := prog_13_method_113_code
def yX11_crossedIn : MethodName := ⟨RX11, "crossedIn", "(III)I"⟩
abbrev cX11_note : ByteArray := prog_13_method_114_code
def yX11_note : MethodName := ⟨RX11, "note", "()V"⟩
abbrev cX11_cross : ByteArray := prog_13_method_115_code
def yX11_cross : MethodName := ⟨RX11, "cross", "(II)I"⟩
abbrev cX11_buy : ByteArray := prog_13_method_116_code
def yX11_buy : MethodName := ⟨RX11, "buy", "(II)I"⟩
abbrev cX11_hours : ByteArray := prog_13_method_117_code
def yX11_hours : MethodName := ⟨RX11, "hours", "(I)I"⟩
abbrev cX11_undo : ByteArray := prog_13_method_118_code
def yX11_undo : MethodName := ⟨RX11, "undo", "()Z"⟩
abbrev cX11_image : ByteArray := prog_13_method_119_code
def yX11_image : MethodName := ⟨RX11, "image", "()I"⟩
abbrev cX11_back : ByteArray := prog_13_method_120_code
def yX11_back : MethodName := ⟨RX11, "back", "(I)Z"⟩
abbrev cX11_led : ByteArray := prog_13_method_121_code
def yX11_led : MethodName := ⟨RX11, "led", "(I)I"⟩
abbrev cX11_size : ByteArray := prog_13_method_122_code
def yX11_size : MethodName := ⟨RX11, "size", "(I)I"⟩
abbrev cX11_trouble : ByteArray := prog_13_method_123_code
def yX11_trouble : MethodName := ⟨RX11, "trouble", "()I"⟩
def RJ6 : String := "java/lang/Integer"
def TJ6 : u_T := fun k => match k with
  | _ => ("", "", "", false)
def tyJ6 : Nat → FieldType := fun k => match k with
  | _ => .int
abbrev wsJ60 : List Cond := u_ws RJ6 TJ6 0
theorem nmJ6 : ∀ a, a < 0 → ∀ b, b < 0 → a ≠ b → (TJ6 a).2.1 ≠ (TJ6 b).2.1 := by decide +kernel
theorem tyJ6_ok : ∀ k, k < 0 → parseFieldDescriptor (TJ6 k).2.2.1 = some (tyJ6 k) := by decide +kernel
abbrev cJ6_bitCount_0f7a4 : ByteArray := prog_18_method_49_code
def yJ6_bitCount_0f7a4 : MethodName := ⟨RJ6, "bitCount", "(I)I"⟩
def RJ9 : String := "java/lang/Math"
def TJ9 : u_T := fun k => match k with
  | _ => ("", "", "", false)
def tyJ9 : Nat → FieldType := fun k => match k with
  | _ => .int
abbrev wsJ90 : List Cond := u_ws RJ9 TJ9 0
theorem nmJ9 : ∀ a, a < 0 → ∀ b, b < 0 → a ≠ b → (TJ9 a).2.1 ≠ (TJ9 b).2.1 := by decide +kernel
theorem tyJ9_ok : ∀ k, k < 0 → parseFieldDescriptor (TJ9 k).2.2.1 = some (tyJ9 k) := by decide +kernel
abbrev cJ9_max_7cf53 : ByteArray := prog_19_method_65_code
def yJ9_max_7cf53 : MethodName := ⟨RJ9, "max", "(II)I"⟩
abbrev cJ9_min_7cf53 : ByteArray := prog_19_method_69_code
def yJ9_min_7cf53 : MethodName := ⟨RJ9, "min", "(II)I"⟩
def RJ0 : String := "java/lang/String"
def TJ0 : u_T := fun k => match k with
  | _ => ("", "", "", false)
def tyJ0 : Nat → FieldType := fun k => match k with
  | _ => .int
abbrev wsJ00 : List Cond := u_ws RJ0 TJ0 0
theorem nmJ0 : ∀ a, a < 0 → ∀ b, b < 0 → a ≠ b → (TJ0 a).2.1 ≠ (TJ0 b).2.1 := by decide +kernel
theorem tyJ0_ok : ∀ k, k < 0 → parseFieldDescriptor (TJ0 k).2.2.1 = some (tyJ0 k) := by decide +kernel
abbrev cJ0_length_8abf5 : ByteArray := prog_21_method_54_code
def yJ0_length_8abf5 : MethodName := ⟨RJ0, "length", "()I"⟩
abbrev cJ0_charAt_5068e : ByteArray := prog_21_method_56_code
def yJ0_charAt_5068e : MethodName := ⟨RJ0, "charAt", "(I)C"⟩
abbrev cJ0_coder_7d493 : ByteArray := prog_21_method_152_code
def yJ0_coder_7d493 : MethodName := ⟨RJ0, "coder", "()B"⟩
abbrev cJ0_isLatin1_aae02 : ByteArray := prog_21_method_154_code
def yJ0_isLatin1_aae02 : MethodName := ⟨RJ0, "isLatin1", "()Z"⟩
abbrev cJ0_checkIndex_df160 : ByteArray := prog_21_method_155_code
def yJ0_checkIndex_df160 : MethodName := ⟨RJ0, "checkIndex", "(II)V"⟩
def RJ1 : String := "java/lang/StringLatin1"
def TJ1 : u_T := fun k => match k with
  | _ => ("", "", "", false)
def tyJ1 : Nat → FieldType := fun k => match k with
  | _ => .int
abbrev wsJ10 : List Cond := u_ws RJ1 TJ1 0
theorem nmJ1 : ∀ a, a < 0 → ∀ b, b < 0 → a ≠ b → (TJ1 a).2.1 ≠ (TJ1 b).2.1 := by decide +kernel
theorem tyJ1_ok : ∀ k, k < 0 → parseFieldDescriptor (TJ1 k).2.2.1 = some (tyJ1 k) := by decide +kernel
abbrev cJ1_charAt_3b067 : ByteArray := prog_22_method_2_code
def yJ1_charAt_3b067 : MethodName := ⟨RJ1, "charAt", "([BI)C"⟩
def RJ2 : String := "java/lang/StringUTF16"
def TJ2 : u_T := fun k => match k with
  | _ => ("", "", "", false)
def tyJ2 : Nat → FieldType := fun k => match k with
  | _ => .int
abbrev wsJ20 : List Cond := u_ws RJ2 TJ2 0
theorem nmJ2 : ∀ a, a < 0 → ∀ b, b < 0 → a ≠ b → (TJ2 a).2.1 ≠ (TJ2 b).2.1 := by decide +kernel
theorem tyJ2_ok : ∀ k, k < 0 → parseFieldDescriptor (TJ2 k).2.2.1 = some (tyJ2 k) := by decide +kernel
abbrev cJ2_getChar_3b067 : ByteArray := prog_23_method_5_code
def yJ2_getChar_3b067 : MethodName := ⟨RJ2, "getChar", "([BI)C"⟩
abbrev cJ2_length_9d52b : ByteArray := prog_23_method_6_code
def yJ2_length_9d52b : MethodName := ⟨RJ2, "length", "([B)I"⟩
abbrev cJ2_charAt_3b067 : ByteArray := prog_23_method_83_code
def yJ2_charAt_3b067 : MethodName := ⟨RJ2, "charAt", "([BI)C"⟩
abbrev cJ2_checkIndex_2214a : ByteArray := prog_23_method_91_code
def yJ2_checkIndex_2214a : MethodName := ⟨RJ2, "checkIndex", "(I[B)V"⟩
def RJ10 : String := "java/lang/System"
def TJ10 : u_T := fun k => match k with
  | _ => ("", "", "", false)
def tyJ10 : Nat → FieldType := fun k => match k with
  | _ => .int
abbrev wsJ100 : List Cond := u_ws RJ10 TJ10 0
theorem nmJ10 : ∀ a, a < 0 → ∀ b, b < 0 → a ≠ b → (TJ10 a).2.1 ≠ (TJ10 b).2.1 := by decide +kernel
theorem tyJ10_ok : ∀ k, k < 0 → parseFieldDescriptor (TJ10 k).2.2.1 = some (tyJ10 k) := by decide +kernel
def RJ7 : String := "java/util/Arrays"
def TJ7 : u_T := fun k => match k with
  | _ => ("", "", "", false)
def tyJ7 : Nat → FieldType := fun k => match k with
  | _ => .int
abbrev wsJ70 : List Cond := u_ws RJ7 TJ7 0
theorem nmJ7 : ∀ a, a < 0 → ∀ b, b < 0 → a ≠ b → (TJ7 a).2.1 ≠ (TJ7 b).2.1 := by decide +kernel
theorem tyJ7_ok : ∀ k, k < 0 → parseFieldDescriptor (TJ7 k).2.2.1 = some (tyJ7 k) := by decide +kernel
abbrev cJ7_fill_53178 : ByteArray := prog_28_method_103_code
def yJ7_fill_53178 : MethodName := ⟨RJ7, "fill", "([II)V"⟩
def RJ3 : String := "jdk/internal/util/Preconditions"
def TJ3 : u_T := fun k => match k with
  | _ => ("", "", "", false)
def tyJ3 : Nat → FieldType := fun k => match k with
  | _ => .int
abbrev wsJ30 : List Cond := u_ws RJ3 TJ3 0
theorem nmJ3 : ∀ a, a < 0 → ∀ b, b < 0 → a ≠ b → (TJ3 a).2.1 ≠ (TJ3 b).2.1 := by decide +kernel
theorem tyJ3_ok : ∀ k, k < 0 → parseFieldDescriptor (TJ3 k).2.2.1 = some (tyJ3 k) := by decide +kernel
abbrev cJ3_checkIndex_8e157 : ByteArray := prog_30_method_11_code
def yJ3_checkIndex_8e157 : MethodName := ⟨RJ3, "checkIndex", "(IILjava/util/function/BiFunction;)I"⟩
def RL : String := "RhymeFerryLaw"
abbrev cL_led : ByteArray := method_3_code
def yL_led : MethodName := ⟨RL, "led", "(LRhymeFerry;I[J)I"⟩
abbrev cL_law : ByteArray := code
def yL_law : MethodName := ⟨RL, "law", "([I)Z"⟩
abbrev vwCl : List vw_C := [(RX0, TX0, 3), (RX1, TX1, 4), (RX2, TX2, 6), (RX3, TX3, 2), (RX4, TX4, 7), (RX5, TX5, 17), (RX6, TX6, 3), (RX7, TX7, 4), (RX8, TX8, 4), (RX9, TX9, 20), (RX10, TX10, 17), (RX11, TX11, 37)]
/-! the good words of the tables -/
def rf_gt : List Cond := lw_tbl.filter goodWord
theorem rf_gm {w : Cond} (i : Nat) (h : tables_1[i]? = some w) (g : goodWord w = true) : w ∈ rf_gt := List.mem_filter.mpr ⟨List.mem_append_right _ (List.mem_of_getElem? h), g⟩
theorem rf_gs {y : MethodName} {n : Nat} (i : Nat) (h : lw_privs[i]? = some (y, n)) (g : goodWord (Cond.selects y.cls y y) = true) : Cond.selects y.cls y y ∈ rf_gt := List.mem_filter.mpr ⟨List.mem_append_left _ (List.mem_map.mpr ⟨(y, n), List.mem_of_getElem? h, rfl⟩), g⟩
theorem rf_gg {w : Cond} (h : w ∈ rf_gt) : (w.onTables && w.keeps) = true ∨ ∃ ty, w = .arrayClass ty := good_of_word (List.mem_filter.mp h).2
/-! nest mates -/
def rf_nl : List (String × Nat × MethodName × String) := [("RhymeFerry", 15, (⟨"RhymeFerry$Now", "<init>", "()V"⟩ : MethodName), "RhymeFerry"), ("RhymeFerry$Rhymes", 17, (⟨"RhymeFerry$Tale", "<init>", "()V"⟩ : MethodName), "RhymeFerry"), ("RhymeFerry", 31, (⟨"RhymeFerry$Pairing", "<init>", "()V"⟩ : MethodName), "RhymeFerry"), ("RhymeFerry", 87, (⟨"RhymeFerry$Tale", "<init>", "()V"⟩ : MethodName), "RhymeFerry"), ("RhymeFerry$Reader", 227, (⟨"RhymeFerry", "holds", "(II)Z"⟩ : MethodName), "RhymeFerry"), ("RhymeFerry$Tale", 80, (⟨"RhymeFerry", "holds", "(II)Z"⟩ : MethodName), "RhymeFerry"), ("RhymeFerry$Now", 54, (⟨"RhymeFerry", "holds", "(II)Z"⟩ : MethodName), "RhymeFerry"), ("RhymeFerry$Rhymes", 54, (⟨"RhymeFerry", "holds", "(II)Z"⟩ : MethodName), "RhymeFerry"), ("RhymeFerry$Pairing", 18, (⟨"RhymeFerry", "holds", "(II)Z"⟩ : MethodName), "RhymeFerry"), ("RhymeFerry$Purse", 47, (⟨"RhymeFerry", "holds", "(II)Z"⟩ : MethodName), "RhymeFerry"), ("RhymeFerry$Purse", 115, (⟨"RhymeFerry$Pairing", "canAll", "([II)Z"⟩ : MethodName), "RhymeFerry"), ("RhymeFerry$Hearing", 54, (⟨"RhymeFerry", "holds", "(II)Z"⟩ : MethodName), "RhymeFerry"), ("RhymeFerry$Sellers", 50, (⟨"RhymeFerry", "holds", "(II)Z"⟩ : MethodName), "RhymeFerry")]
def rf_nw : List Cond := rf_nl.map (fun q => Cond.methodLinkNest q.1 q.2.1 q.2.2.1 q.2.2.2)
theorem rf_nwf {w : Cond} (h : w ∈ rf_nw) : ∃ (a : String) (i : Nat) (x : MethodName) (b : String), w = .methodLinkNest a i x b := by
  obtain ⟨q, -, rfl⟩ := List.mem_map.mp h
  exact ⟨_, _, _, _, rfl⟩
/-! String constants: class, place, text -/
def rf_sl : List (String × Nat × String) := [("RhymeFerry$Reader", 107, "ferry"), ("RhymeFerry$Reader", 113, "word"), ("RhymeFerry$Reader", 115, "person"), ("RhymeFerry$Reader", 117, "knows"), ("RhymeFerry$Reader", 119, "alike"), ("RhymeFerry$Reader", 121, "hour"), ("RhymeFerry$Reader", 123, "errand"), ("RhymeFerry$Reader", 125, "got"), ("RhymeFerry$Reader", 169, "ear"), ("RhymeFerry$Reader", 180, "pairs"), ("RhymeFerry$Reader", 187, "sounds"), ("RhymeFerry$Reader", 191, "price"), ("RhymeFerry$Reader", 197, "plain"), ("RhymeFerry$Reader", 199, "deaf"), ("RhymeFerry$Reader", 201, "child"), ("RhymeFerry$Reader", 203, "poet"), ("RhymeFerry$Reader", 205, "on"), ("RhymeFerry$Reader", 207, "far"), ("RhymeFerry$Reader", 209, "near"), ("RhymeFerry$Reader", 211, "has"), ("RhymeFerry$Reader", 249, "by"), ("RhymeFerry$Reader", 251, "over"), ("RhymeFerry$Reader", 253, "wet"), ("RhymeFerry$Reader", 255, "back"), ("RhymeFerryModel", 125, "ferry"), ("RhymeFerryModel", 218, "ear"), ("RhymeFerryModel", 224, "pairs"), ("RhymeFerryModel", 127, "word"), ("RhymeFerryModel", 129, "person"), ("RhymeFerryModel", 131, "knows"), ("RhymeFerryModel", 133, "alike"), ("RhymeFerryModel", 135, "hour"), ("RhymeFerryModel", 137, "errand"), ("RhymeFerryModel", 139, "got"), ("RhymeFerryModel", 230, "sounds"), ("RhymeFerryModel", 236, "price"), ("RhymeFerryModel", 238, "plain"), ("RhymeFerryModel", 240, "deaf"), ("RhymeFerryModel", 242, "child"), ("RhymeFerryModel", 244, "poet"), ("RhymeFerryModel", 250, "on"), ("RhymeFerryModel", 252, "near"), ("RhymeFerryModel", 254, "far"), ("RhymeFerryModel", 256, ""), ("RhymeFerryModel", 258, "has"), ("RhymeFerryModel", 273, "by"), ("RhymeFerryModel", 275, "back"), ("RhymeFerryModel", 277, "wet"), ("RhymeFerryModel", 279, "over")]
def rf_sn : List Nat := [5, 4, 6, 5, 5, 4, 6, 3, 3, 5, 6, 5, 5, 4, 5, 4, 2, 3, 4, 3, 2, 4, 3, 4, 5, 3, 5, 4, 6, 5, 5, 4, 6, 3, 6, 5, 5, 4, 5, 4, 2, 4, 3, 0, 3, 2, 4, 3, 4]
def rf_sb : List (List Int32) := [[102, 101, 114, 114, 121], [119, 111, 114, 100], [112, 101, 114, 115, 111, 110], [107, 110, 111, 119, 115], [97, 108, 105, 107, 101], [104, 111, 117, 114], [101, 114, 114, 97, 110, 100], [103, 111, 116], [101, 97, 114], [112, 97, 105, 114, 115], [115, 111, 117, 110, 100, 115], [112, 114, 105, 99, 101], [112, 108, 97, 105, 110], [100, 101, 97, 102], [99, 104, 105, 108, 100], [112, 111, 101, 116], [111, 110], [102, 97, 114], [110, 101, 97, 114], [104, 97, 115], [98, 121], [111, 118, 101, 114], [119, 101, 116], [98, 97, 99, 107], [102, 101, 114, 114, 121], [101, 97, 114], [112, 97, 105, 114, 115], [119, 111, 114, 100], [112, 101, 114, 115, 111, 110], [107, 110, 111, 119, 115], [97, 108, 105, 107, 101], [104, 111, 117, 114], [101, 114, 114, 97, 110, 100], [103, 111, 116], [115, 111, 117, 110, 100, 115], [112, 114, 105, 99, 101], [112, 108, 97, 105, 110], [100, 101, 97, 102], [99, 104, 105, 108, 100], [112, 111, 101, 116], [111, 110], [110, 101, 97, 114], [102, 97, 114], [], [104, 97, 115], [98, 121], [98, 97, 99, 107], [119, 101, 116], [111, 118, 101, 114]]
def rf_len (k : Nat) : Nat := rf_sn.getD k 0
def rf_byt (k j : Nat) : Int32 := (rf_sb.getD k []).getD j 0
