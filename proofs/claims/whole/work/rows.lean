section
-- ===== PART A: goes FIRST, ahead of the names: the tables' words, and 'selects' of the private methods out of them =====
/-- a private method of a class that the tables say can be made, by its rows of tables_1 -/
def lw_okq (q : MethodName × Nat) : Prop := (q.1.cls ≠ "java/lang/invoke/MethodHandle" ∧ q.1.cls ≠ "java/lang/invoke/VarHandle") ∧ Cond.instantiable q.1.cls q.2 ∈ tables_1 ∧ Cond.privateMethod q.1 ∈ tables_1 ∧ Cond.instanceMethod q.1 ∈ tables_1
theorem lw_p0 : lw_okq (⟨"HangingKeys$History", "stateAt", "(I)LHangingKeys$House;"⟩, 3) := ⟨⟨by decide +kernel, by decide +kernel⟩, List.mem_of_getElem? (i := 170) (by decide +kernel), List.mem_of_getElem? (i := 214) (by decide +kernel), List.mem_of_getElem? (i := 215) (by decide +kernel)⟩
theorem lw_p1 : lw_okq (⟨"HangingKeys$House", "wrapKey", "(I)V"⟩, 2) := ⟨⟨by decide +kernel, by decide +kernel⟩, List.mem_of_getElem? (i := 22) (by decide +kernel), List.mem_of_getElem? (i := 289) (by decide +kernel), List.mem_of_getElem? (i := 290) (by decide +kernel)⟩
theorem lw_p2 : lw_okq (⟨"HangingKeys$House", "wrapBox", "(I)V"⟩, 2) := ⟨⟨by decide +kernel, by decide +kernel⟩, List.mem_of_getElem? (i := 22) (by decide +kernel), List.mem_of_getElem? (i := 326) (by decide +kernel), List.mem_of_getElem? (i := 327) (by decide +kernel)⟩
theorem lw_p3 : lw_okq (⟨"HangingKeys$House", "hangingWithout", "(III)I"⟩, 2) := ⟨⟨by decide +kernel, by decide +kernel⟩, List.mem_of_getElem? (i := 22) (by decide +kernel), List.mem_of_getElem? (i := 379) (by decide +kernel), List.mem_of_getElem? (i := 380) (by decide +kernel)⟩
theorem lw_p4 : lw_okq (⟨"HangingKeys$House", "startNextMakes", "(I)V"⟩, 2) := ⟨⟨by decide +kernel, by decide +kernel⟩, List.mem_of_getElem? (i := 22) (by decide +kernel), List.mem_of_getElem? (i := 392) (by decide +kernel), List.mem_of_getElem? (i := 393) (by decide +kernel)⟩
theorem lw_p5 : lw_okq (⟨"HangingKeys$Wraps", "burn", "(I)V"⟩, 6) := ⟨⟨by decide +kernel, by decide +kernel⟩, List.mem_of_getElem? (i := 84) (by decide +kernel), List.mem_of_getElem? (i := 405) (by decide +kernel), List.mem_of_getElem? (i := 406) (by decide +kernel)⟩
theorem lw_p6 : lw_okq (⟨"HangingKeys$House", "wrapAllOn", "(I)V"⟩, 2) := ⟨⟨by decide +kernel, by decide +kernel⟩, List.mem_of_getElem? (i := 22) (by decide +kernel), List.mem_of_getElem? (i := 409) (by decide +kernel), List.mem_of_getElem? (i := 410) (by decide +kernel)⟩
theorem lw_p7 : lw_okq (⟨"HangingKeys$House", "canWrapAgain", "(III)Z"⟩, 2) := ⟨⟨by decide +kernel, by decide +kernel⟩, List.mem_of_getElem? (i := 22) (by decide +kernel), List.mem_of_getElem? (i := 446) (by decide +kernel), List.mem_of_getElem? (i := 447) (by decide +kernel)⟩
theorem lw_p8 : lw_okq (⟨"HangingKeys$Opening", "startFromSafe", "(LHangingKeys$Tree;)V"⟩, 2) := ⟨⟨by decide +kernel, by decide +kernel⟩, List.mem_of_getElem? (i := 124) (by decide +kernel), List.mem_of_getElem? (i := 500) (by decide +kernel), List.mem_of_getElem? (i := 501) (by decide +kernel)⟩
theorem lw_p9 : lw_okq (⟨"HangingKeys$Opening", "openAll", "(LHangingKeys$Wraps;I)V"⟩, 2) := ⟨⟨by decide +kernel, by decide +kernel⟩, List.mem_of_getElem? (i := 124) (by decide +kernel), List.mem_of_getElem? (i := 512) (by decide +kernel), List.mem_of_getElem? (i := 513) (by decide +kernel)⟩
theorem lw_p10 : lw_okq (⟨"HangingKeys$Opening", "openHolding", "(LHangingKeys$Wraps;II)V"⟩, 2) := ⟨⟨by decide +kernel, by decide +kernel⟩, List.mem_of_getElem? (i := 124) (by decide +kernel), List.mem_of_getElem? (i := 516) (by decide +kernel), List.mem_of_getElem? (i := 517) (by decide +kernel)⟩
theorem lw_p11 : lw_okq (⟨"HangingKeys$Opening", "isHad", "(LHangingKeys$Wraps;II)Z"⟩, 2) := ⟨⟨by decide +kernel, by decide +kernel⟩, List.mem_of_getElem? (i := 124) (by decide +kernel), List.mem_of_getElem? (i := 533) (by decide +kernel), List.mem_of_getElem? (i := 534) (by decide +kernel)⟩
theorem lw_p12 : lw_okq (⟨"HangingKeys$Opening", "openedBoxes", "(LHangingKeys$Wraps;)I"⟩, 2) := ⟨⟨by decide +kernel, by decide +kernel⟩, List.mem_of_getElem? (i := 124) (by decide +kernel), List.mem_of_getElem? (i := 542) (by decide +kernel), List.mem_of_getElem? (i := 543) (by decide +kernel)⟩
theorem lw_p13 : lw_okq (⟨"HangingKeys$Pad", "skip", "(I)Z"⟩, 6) := ⟨⟨by decide +kernel, by decide +kernel⟩, List.mem_of_getElem? (i := 139) (by decide +kernel), List.mem_of_getElem? (i := 685) (by decide +kernel), List.mem_of_getElem? (i := 686) (by decide +kernel)⟩
theorem lw_p14 : lw_okq (⟨"HangingKeys$Pad", "nextSign", "()I"⟩, 6) := ⟨⟨by decide +kernel, by decide +kernel⟩, List.mem_of_getElem? (i := 139) (by decide +kernel), List.mem_of_getElem? (i := 689) (by decide +kernel), List.mem_of_getElem? (i := 690) (by decide +kernel)⟩
theorem lw_p15 : lw_okq (⟨"HangingKeys$Pad", "readOrder", "()Z"⟩, 6) := ⟨⟨by decide +kernel, by decide +kernel⟩, List.mem_of_getElem? (i := 139) (by decide +kernel), List.mem_of_getElem? (i := 698) (by decide +kernel), List.mem_of_getElem? (i := 699) (by decide +kernel)⟩
def lw_privs_1 : List (MethodName × Nat) := [(⟨"HangingKeys$History", "stateAt", "(I)LHangingKeys$House;"⟩, 3), (⟨"HangingKeys$House", "wrapKey", "(I)V"⟩, 2), (⟨"HangingKeys$House", "wrapBox", "(I)V"⟩, 2), (⟨"HangingKeys$House", "hangingWithout", "(III)I"⟩, 2), (⟨"HangingKeys$House", "startNextMakes", "(I)V"⟩, 2), (⟨"HangingKeys$Wraps", "burn", "(I)V"⟩, 6), (⟨"HangingKeys$House", "wrapAllOn", "(I)V"⟩, 2), (⟨"HangingKeys$House", "canWrapAgain", "(III)Z"⟩, 2), (⟨"HangingKeys$Opening", "startFromSafe", "(LHangingKeys$Tree;)V"⟩, 2), (⟨"HangingKeys$Opening", "openAll", "(LHangingKeys$Wraps;I)V"⟩, 2), (⟨"HangingKeys$Opening", "openHolding", "(LHangingKeys$Wraps;II)V"⟩, 2), (⟨"HangingKeys$Opening", "isHad", "(LHangingKeys$Wraps;II)Z"⟩, 2), (⟨"HangingKeys$Opening", "openedBoxes", "(LHangingKeys$Wraps;)I"⟩, 2), (⟨"HangingKeys$Pad", "skip", "(I)Z"⟩, 6), (⟨"HangingKeys$Pad", "nextSign", "()I"⟩, 6), (⟨"HangingKeys$Pad", "readOrder", "()Z"⟩, 6)]
theorem lw_r1 : ∀ q ∈ lw_privs_1, lw_okq q := List.forall_mem_cons.mpr ⟨lw_p0, List.forall_mem_cons.mpr ⟨lw_p1, List.forall_mem_cons.mpr ⟨lw_p2, List.forall_mem_cons.mpr ⟨lw_p3, List.forall_mem_cons.mpr ⟨lw_p4, List.forall_mem_cons.mpr ⟨lw_p5, List.forall_mem_cons.mpr ⟨lw_p6, List.forall_mem_cons.mpr ⟨lw_p7, List.forall_mem_cons.mpr ⟨lw_p8, List.forall_mem_cons.mpr ⟨lw_p9, List.forall_mem_cons.mpr ⟨lw_p10, List.forall_mem_cons.mpr ⟨lw_p11, List.forall_mem_cons.mpr ⟨lw_p12, List.forall_mem_cons.mpr ⟨lw_p13, List.forall_mem_cons.mpr ⟨lw_p14, List.forall_mem_cons.mpr ⟨lw_p15, fun _ h => absurd h List.not_mem_nil⟩⟩⟩⟩⟩⟩⟩⟩⟩⟩⟩⟩⟩⟩⟩⟩
theorem lw_p16 : lw_okq (⟨"HangingKeys$Pad", "readNumber", "()Z"⟩, 6) := ⟨⟨by decide +kernel, by decide +kernel⟩, List.mem_of_getElem? (i := 139) (by decide +kernel), List.mem_of_getElem? (i := 705) (by decide +kernel), List.mem_of_getElem? (i := 706) (by decide +kernel)⟩
theorem lw_p17 : lw_okq (⟨"HangingKeys$Pad", "readPlace", "()Z"⟩, 6) := ⟨⟨by decide +kernel, by decide +kernel⟩, List.mem_of_getElem? (i := 139) (by decide +kernel), List.mem_of_getElem? (i := 712) (by decide +kernel), List.mem_of_getElem? (i := 713) (by decide +kernel)⟩
theorem lw_p18 : lw_okq (⟨"HangingKeys", "carryOutOrder", "()I"⟩, 5) := ⟨⟨by decide +kernel, by decide +kernel⟩, List.mem_of_getElem? (i := 14) (by decide +kernel), List.mem_of_getElem? (i := 723) (by decide +kernel), List.mem_of_getElem? (i := 724) (by decide +kernel)⟩
theorem lw_p19 : lw_okq (⟨"HangingKeysModel", "record", "()V"⟩, 12) := ⟨⟨by decide +kernel, by decide +kernel⟩, List.mem_of_getElem? (i := 744) (by decide +kernel), List.mem_of_getElem? (i := 794) (by decide +kernel), List.mem_of_getElem? (i := 795) (by decide +kernel)⟩
theorem lw_p20 : lw_okq (⟨"HangingKeysModel", "whyNoKey", "(I)I"⟩, 12) := ⟨⟨by decide +kernel, by decide +kernel⟩, List.mem_of_getElem? (i := 744) (by decide +kernel), List.mem_of_getElem? (i := 805) (by decide +kernel), List.mem_of_getElem? (i := 806) (by decide +kernel)⟩
theorem lw_p21 : lw_okq (⟨"HangingKeysModel", "isLiveKey", "(I)Z"⟩, 12) := ⟨⟨by decide +kernel, by decide +kernel⟩, List.mem_of_getElem? (i := 744) (by decide +kernel), List.mem_of_getElem? (i := 809) (by decide +kernel), List.mem_of_getElem? (i := 810) (by decide +kernel)⟩
theorem lw_p22 : lw_okq (⟨"HangingKeysModel", "isKey", "(I)Z"⟩, 12) := ⟨⟨by decide +kernel, by decide +kernel⟩, List.mem_of_getElem? (i := 744) (by decide +kernel), List.mem_of_getElem? (i := 813) (by decide +kernel), List.mem_of_getElem? (i := 814) (by decide +kernel)⟩
theorem lw_p23 : lw_okq (⟨"HangingKeysModel", "keyPart", "(II)I"⟩, 12) := ⟨⟨by decide +kernel, by decide +kernel⟩, List.mem_of_getElem? (i := 744) (by decide +kernel), List.mem_of_getElem? (i := 817) (by decide +kernel), List.mem_of_getElem? (i := 818) (by decide +kernel)⟩
theorem lw_p24 : lw_okq (⟨"HangingKeysModel", "canClose", "(I)Z"⟩, 12) := ⟨⟨by decide +kernel, by decide +kernel⟩, List.mem_of_getElem? (i := 744) (by decide +kernel), List.mem_of_getElem? (i := 821) (by decide +kernel), List.mem_of_getElem? (i := 822) (by decide +kernel)⟩
theorem lw_p25 : lw_okq (⟨"HangingKeysModel", "makeKey", "(I)I"⟩, 12) := ⟨⟨by decide +kernel, by decide +kernel⟩, List.mem_of_getElem? (i := 744) (by decide +kernel), List.mem_of_getElem? (i := 825) (by decide +kernel), List.mem_of_getElem? (i := 826) (by decide +kernel)⟩
theorem lw_p26 : lw_okq (⟨"HangingKeysModel", "setKey", "(III)V"⟩, 12) := ⟨⟨by decide +kernel, by decide +kernel⟩, List.mem_of_getElem? (i := 744) (by decide +kernel), List.mem_of_getElem? (i := 829) (by decide +kernel), List.mem_of_getElem? (i := 830) (by decide +kernel)⟩
theorem lw_p27 : lw_okq (⟨"HangingKeysModel", "wrapKey", "(I)V"⟩, 12) := ⟨⟨by decide +kernel, by decide +kernel⟩, List.mem_of_getElem? (i := 744) (by decide +kernel), List.mem_of_getElem? (i := 833) (by decide +kernel), List.mem_of_getElem? (i := 834) (by decide +kernel)⟩
theorem lw_p28 : lw_okq (⟨"HangingKeysModel", "makeWrap", "(III)V"⟩, 12) := ⟨⟨by decide +kernel, by decide +kernel⟩, List.mem_of_getElem? (i := 744) (by decide +kernel), List.mem_of_getElem? (i := 837) (by decide +kernel), List.mem_of_getElem? (i := 838) (by decide +kernel)⟩
theorem lw_p29 : lw_okq (⟨"HangingKeysModel", "setWrap", "(III)V"⟩, 12) := ⟨⟨by decide +kernel, by decide +kernel⟩, List.mem_of_getElem? (i := 744) (by decide +kernel), List.mem_of_getElem? (i := 841) (by decide +kernel), List.mem_of_getElem? (i := 842) (by decide +kernel)⟩
theorem lw_p30 : lw_okq (⟨"HangingKeysModel", "whyNoBox", "(I)I"⟩, 12) := ⟨⟨by decide +kernel, by decide +kernel⟩, List.mem_of_getElem? (i := 744) (by decide +kernel), List.mem_of_getElem? (i := 849) (by decide +kernel), List.mem_of_getElem? (i := 850) (by decide +kernel)⟩
theorem lw_p31 : lw_okq (⟨"HangingKeysModel", "makeBox", "(I)I"⟩, 12) := ⟨⟨by decide +kernel, by decide +kernel⟩, List.mem_of_getElem? (i := 744) (by decide +kernel), List.mem_of_getElem? (i := 853) (by decide +kernel), List.mem_of_getElem? (i := 854) (by decide +kernel)⟩
def lw_privs_2 : List (MethodName × Nat) := [(⟨"HangingKeys$Pad", "readNumber", "()Z"⟩, 6), (⟨"HangingKeys$Pad", "readPlace", "()Z"⟩, 6), (⟨"HangingKeys", "carryOutOrder", "()I"⟩, 5), (⟨"HangingKeysModel", "record", "()V"⟩, 12), (⟨"HangingKeysModel", "whyNoKey", "(I)I"⟩, 12), (⟨"HangingKeysModel", "isLiveKey", "(I)Z"⟩, 12), (⟨"HangingKeysModel", "isKey", "(I)Z"⟩, 12), (⟨"HangingKeysModel", "keyPart", "(II)I"⟩, 12), (⟨"HangingKeysModel", "canClose", "(I)Z"⟩, 12), (⟨"HangingKeysModel", "makeKey", "(I)I"⟩, 12), (⟨"HangingKeysModel", "setKey", "(III)V"⟩, 12), (⟨"HangingKeysModel", "wrapKey", "(I)V"⟩, 12), (⟨"HangingKeysModel", "makeWrap", "(III)V"⟩, 12), (⟨"HangingKeysModel", "setWrap", "(III)V"⟩, 12), (⟨"HangingKeysModel", "whyNoBox", "(I)I"⟩, 12), (⟨"HangingKeysModel", "makeBox", "(I)I"⟩, 12)]
theorem lw_r2 : ∀ q ∈ lw_privs_2, lw_okq q := List.forall_mem_cons.mpr ⟨lw_p16, List.forall_mem_cons.mpr ⟨lw_p17, List.forall_mem_cons.mpr ⟨lw_p18, List.forall_mem_cons.mpr ⟨lw_p19, List.forall_mem_cons.mpr ⟨lw_p20, List.forall_mem_cons.mpr ⟨lw_p21, List.forall_mem_cons.mpr ⟨lw_p22, List.forall_mem_cons.mpr ⟨lw_p23, List.forall_mem_cons.mpr ⟨lw_p24, List.forall_mem_cons.mpr ⟨lw_p25, List.forall_mem_cons.mpr ⟨lw_p26, List.forall_mem_cons.mpr ⟨lw_p27, List.forall_mem_cons.mpr ⟨lw_p28, List.forall_mem_cons.mpr ⟨lw_p29, List.forall_mem_cons.mpr ⟨lw_p30, List.forall_mem_cons.mpr ⟨lw_p31, fun _ h => absurd h List.not_mem_nil⟩⟩⟩⟩⟩⟩⟩⟩⟩⟩⟩⟩⟩⟩⟩⟩
theorem lw_p32 : lw_okq (⟨"HangingKeysModel", "setBox", "(III)V"⟩, 12) := ⟨⟨by decide +kernel, by decide +kernel⟩, List.mem_of_getElem? (i := 744) (by decide +kernel), List.mem_of_getElem? (i := 857) (by decide +kernel), List.mem_of_getElem? (i := 858) (by decide +kernel)⟩
theorem lw_p33 : lw_okq (⟨"HangingKeysModel", "wrapBox", "(I)V"⟩, 12) := ⟨⟨by decide +kernel, by decide +kernel⟩, List.mem_of_getElem? (i := 744) (by decide +kernel), List.mem_of_getElem? (i := 861) (by decide +kernel), List.mem_of_getElem? (i := 862) (by decide +kernel)⟩
theorem lw_p34 : lw_okq (⟨"HangingKeysModel", "boxPart", "(II)I"⟩, 12) := ⟨⟨by decide +kernel, by decide +kernel⟩, List.mem_of_getElem? (i := 744) (by decide +kernel), List.mem_of_getElem? (i := 865) (by decide +kernel), List.mem_of_getElem? (i := 866) (by decide +kernel)⟩
theorem lw_p35 : lw_okq (⟨"HangingKeysModel", "whyNoCopy", "(II)I"⟩, 12) := ⟨⟨by decide +kernel, by decide +kernel⟩, List.mem_of_getElem? (i := 744) (by decide +kernel), List.mem_of_getElem? (i := 873) (by decide +kernel), List.mem_of_getElem? (i := 874) (by decide +kernel)⟩
theorem lw_p36 : lw_okq (⟨"HangingKeysModel", "wrapPart", "(II)I"⟩, 12) := ⟨⟨by decide +kernel, by decide +kernel⟩, List.mem_of_getElem? (i := 744) (by decide +kernel), List.mem_of_getElem? (i := 877) (by decide +kernel), List.mem_of_getElem? (i := 878) (by decide +kernel)⟩
theorem lw_p37 : lw_okq (⟨"HangingKeysModel", "copied", "(II)I"⟩, 12) := ⟨⟨by decide +kernel, by decide +kernel⟩, List.mem_of_getElem? (i := 744) (by decide +kernel), List.mem_of_getElem? (i := 881) (by decide +kernel), List.mem_of_getElem? (i := 882) (by decide +kernel)⟩
theorem lw_p38 : lw_okq (⟨"HangingKeysModel", "whyNotRenewed", "(I)I"⟩, 12) := ⟨⟨by decide +kernel, by decide +kernel⟩, List.mem_of_getElem? (i := 744) (by decide +kernel), List.mem_of_getElem? (i := 889) (by decide +kernel), List.mem_of_getElem? (i := 890) (by decide +kernel)⟩
theorem lw_p39 : lw_okq (⟨"HangingKeysModel", "renewMakes", "(I)I"⟩, 12) := ⟨⟨by decide +kernel, by decide +kernel⟩, List.mem_of_getElem? (i := 744) (by decide +kernel), List.mem_of_getElem? (i := 893) (by decide +kernel), List.mem_of_getElem? (i := 894) (by decide +kernel)⟩
theorem lw_p40 : lw_okq (⟨"HangingKeysModel", "hangingFrom", "(I)I"⟩, 12) := ⟨⟨by decide +kernel, by decide +kernel⟩, List.mem_of_getElem? (i := 744) (by decide +kernel), List.mem_of_getElem? (i := 897) (by decide +kernel), List.mem_of_getElem? (i := 898) (by decide +kernel)⟩
theorem lw_p41 : lw_okq (⟨"HangingKeysModel", "hangingKeys", "(I)I"⟩, 12) := ⟨⟨by decide +kernel, by decide +kernel⟩, List.mem_of_getElem? (i := 744) (by decide +kernel), List.mem_of_getElem? (i := 901) (by decide +kernel), List.mem_of_getElem? (i := 902) (by decide +kernel)⟩
theorem lw_p42 : lw_okq (⟨"HangingKeysModel", "hangingBoxes", "(I)I"⟩, 12) := ⟨⟨by decide +kernel, by decide +kernel⟩, List.mem_of_getElem? (i := 744) (by decide +kernel), List.mem_of_getElem? (i := 908) (by decide +kernel), List.mem_of_getElem? (i := 909) (by decide +kernel)⟩
theorem lw_p43 : lw_okq (⟨"HangingKeysModel", "isRoot", "(I)Z"⟩, 12) := ⟨⟨by decide +kernel, by decide +kernel⟩, List.mem_of_getElem? (i := 744) (by decide +kernel), List.mem_of_getElem? (i := 912) (by decide +kernel), List.mem_of_getElem? (i := 913) (by decide +kernel)⟩
theorem lw_p44 : lw_okq (⟨"HangingKeysModel", "renewed", "(I)I"⟩, 12) := ⟨⟨by decide +kernel, by decide +kernel⟩, List.mem_of_getElem? (i := 744) (by decide +kernel), List.mem_of_getElem? (i := 916) (by decide +kernel), List.mem_of_getElem? (i := 917) (by decide +kernel)⟩
theorem lw_p45 : lw_okq (⟨"HangingKeysModel", "makesAnew", "(I)V"⟩, 12) := ⟨⟨by decide +kernel, by decide +kernel⟩, List.mem_of_getElem? (i := 744) (by decide +kernel), List.mem_of_getElem? (i := 920) (by decide +kernel), List.mem_of_getElem? (i := 921) (by decide +kernel)⟩
theorem lw_p46 : lw_okq (⟨"HangingKeysModel", "burns", "()V"⟩, 12) := ⟨⟨by decide +kernel, by decide +kernel⟩, List.mem_of_getElem? (i := 744) (by decide +kernel), List.mem_of_getElem? (i := 924) (by decide +kernel), List.mem_of_getElem? (i := 925) (by decide +kernel)⟩
theorem lw_p47 : lw_okq (⟨"HangingKeysModel", "wrapAllUnder", "(I)V"⟩, 12) := ⟨⟨by decide +kernel, by decide +kernel⟩, List.mem_of_getElem? (i := 744) (by decide +kernel), List.mem_of_getElem? (i := 928) (by decide +kernel), List.mem_of_getElem? (i := 929) (by decide +kernel)⟩
def lw_privs_3 : List (MethodName × Nat) := [(⟨"HangingKeysModel", "setBox", "(III)V"⟩, 12), (⟨"HangingKeysModel", "wrapBox", "(I)V"⟩, 12), (⟨"HangingKeysModel", "boxPart", "(II)I"⟩, 12), (⟨"HangingKeysModel", "whyNoCopy", "(II)I"⟩, 12), (⟨"HangingKeysModel", "wrapPart", "(II)I"⟩, 12), (⟨"HangingKeysModel", "copied", "(II)I"⟩, 12), (⟨"HangingKeysModel", "whyNotRenewed", "(I)I"⟩, 12), (⟨"HangingKeysModel", "renewMakes", "(I)I"⟩, 12), (⟨"HangingKeysModel", "hangingFrom", "(I)I"⟩, 12), (⟨"HangingKeysModel", "hangingKeys", "(I)I"⟩, 12), (⟨"HangingKeysModel", "hangingBoxes", "(I)I"⟩, 12), (⟨"HangingKeysModel", "isRoot", "(I)Z"⟩, 12), (⟨"HangingKeysModel", "renewed", "(I)I"⟩, 12), (⟨"HangingKeysModel", "makesAnew", "(I)V"⟩, 12), (⟨"HangingKeysModel", "burns", "()V"⟩, 12), (⟨"HangingKeysModel", "wrapAllUnder", "(I)V"⟩, 12)]
theorem lw_r3 : ∀ q ∈ lw_privs_3, lw_okq q := List.forall_mem_cons.mpr ⟨lw_p32, List.forall_mem_cons.mpr ⟨lw_p33, List.forall_mem_cons.mpr ⟨lw_p34, List.forall_mem_cons.mpr ⟨lw_p35, List.forall_mem_cons.mpr ⟨lw_p36, List.forall_mem_cons.mpr ⟨lw_p37, List.forall_mem_cons.mpr ⟨lw_p38, List.forall_mem_cons.mpr ⟨lw_p39, List.forall_mem_cons.mpr ⟨lw_p40, List.forall_mem_cons.mpr ⟨lw_p41, List.forall_mem_cons.mpr ⟨lw_p42, List.forall_mem_cons.mpr ⟨lw_p43, List.forall_mem_cons.mpr ⟨lw_p44, List.forall_mem_cons.mpr ⟨lw_p45, List.forall_mem_cons.mpr ⟨lw_p46, List.forall_mem_cons.mpr ⟨lw_p47, fun _ h => absurd h List.not_mem_nil⟩⟩⟩⟩⟩⟩⟩⟩⟩⟩⟩⟩⟩⟩⟩⟩
theorem lw_p48 : lw_okq (⟨"HangingKeysModel", "whyKeyNotThrown", "(I)I"⟩, 12) := ⟨⟨by decide +kernel, by decide +kernel⟩, List.mem_of_getElem? (i := 744) (by decide +kernel), List.mem_of_getElem? (i := 936) (by decide +kernel), List.mem_of_getElem? (i := 937) (by decide +kernel)⟩
theorem lw_p49 : lw_okq (⟨"HangingKeysModel", "whyNotThrown", "(I)I"⟩, 12) := ⟨⟨by decide +kernel, by decide +kernel⟩, List.mem_of_getElem? (i := 744) (by decide +kernel), List.mem_of_getElem? (i := 940) (by decide +kernel), List.mem_of_getElem? (i := 941) (by decide +kernel)⟩
theorem lw_p50 : lw_okq (⟨"HangingKeysModel", "throwMakes", "(I)I"⟩, 12) := ⟨⟨by decide +kernel, by decide +kernel⟩, List.mem_of_getElem? (i := 744) (by decide +kernel), List.mem_of_getElem? (i := 944) (by decide +kernel), List.mem_of_getElem? (i := 945) (by decide +kernel)⟩
theorem lw_p51 : lw_okq (⟨"HangingKeysModel", "keyThrown", "(I)I"⟩, 12) := ⟨⟨by decide +kernel, by decide +kernel⟩, List.mem_of_getElem? (i := 744) (by decide +kernel), List.mem_of_getElem? (i := 948) (by decide +kernel), List.mem_of_getElem? (i := 949) (by decide +kernel)⟩
theorem lw_p52 : lw_okq (⟨"HangingKeysModel", "isUnder", "(II)Z"⟩, 12) := ⟨⟨by decide +kernel, by decide +kernel⟩, List.mem_of_getElem? (i := 744) (by decide +kernel), List.mem_of_getElem? (i := 952) (by decide +kernel), List.mem_of_getElem? (i := 953) (by decide +kernel)⟩
theorem lw_p53 : lw_okq (⟨"HangingKeysModel", "makesAboveAnew", "(I)V"⟩, 12) := ⟨⟨by decide +kernel, by decide +kernel⟩, List.mem_of_getElem? (i := 744) (by decide +kernel), List.mem_of_getElem? (i := 956) (by decide +kernel), List.mem_of_getElem? (i := 957) (by decide +kernel)⟩
theorem lw_p54 : lw_okq (⟨"HangingKeysModel", "above", "(I)I"⟩, 12) := ⟨⟨by decide +kernel, by decide +kernel⟩, List.mem_of_getElem? (i := 744) (by decide +kernel), List.mem_of_getElem? (i := 960) (by decide +kernel), List.mem_of_getElem? (i := 961) (by decide +kernel)⟩
theorem lw_p55 : lw_okq (⟨"HangingKeysModel", "higher", "(II)I"⟩, 12) := ⟨⟨by decide +kernel, by decide +kernel⟩, List.mem_of_getElem? (i := 744) (by decide +kernel), List.mem_of_getElem? (i := 964) (by decide +kernel), List.mem_of_getElem? (i := 965) (by decide +kernel)⟩
theorem lw_p56 : lw_okq (⟨"HangingKeysModel", "whyBoxNotThrown", "(I)I"⟩, 12) := ⟨⟨by decide +kernel, by decide +kernel⟩, List.mem_of_getElem? (i := 744) (by decide +kernel), List.mem_of_getElem? (i := 972) (by decide +kernel), List.mem_of_getElem? (i := 973) (by decide +kernel)⟩
theorem lw_p57 : lw_okq (⟨"HangingKeysModel", "isLiveBox", "(I)Z"⟩, 12) := ⟨⟨by decide +kernel, by decide +kernel⟩, List.mem_of_getElem? (i := 744) (by decide +kernel), List.mem_of_getElem? (i := 976) (by decide +kernel), List.mem_of_getElem? (i := 977) (by decide +kernel)⟩
theorem lw_p58 : lw_okq (⟨"HangingKeysModel", "isBox", "(I)Z"⟩, 12) := ⟨⟨by decide +kernel, by decide +kernel⟩, List.mem_of_getElem? (i := 744) (by decide +kernel), List.mem_of_getElem? (i := 980) (by decide +kernel), List.mem_of_getElem? (i := 981) (by decide +kernel)⟩
theorem lw_p59 : lw_okq (⟨"HangingKeysModel", "boxThrown", "(I)I"⟩, 12) := ⟨⟨by decide +kernel, by decide +kernel⟩, List.mem_of_getElem? (i := 744) (by decide +kernel), List.mem_of_getElem? (i := 984) (by decide +kernel), List.mem_of_getElem? (i := 985) (by decide +kernel)⟩
theorem lw_p60 : lw_okq (⟨"HangingKeysModel", "openWith", "(I)I"⟩, 12) := ⟨⟨by decide +kernel, by decide +kernel⟩, List.mem_of_getElem? (i := 744) (by decide +kernel), List.mem_of_getElem? (i := 996) (by decide +kernel), List.mem_of_getElem? (i := 997) (by decide +kernel)⟩
theorem lw_p61 : lw_okq (⟨"HangingKeysModel", "open", "(III)V"⟩, 12) := ⟨⟨by decide +kernel, by decide +kernel⟩, List.mem_of_getElem? (i := 744) (by decide +kernel), List.mem_of_getElem? (i := 1000) (by decide +kernel), List.mem_of_getElem? (i := 1001) (by decide +kernel)⟩
theorem lw_p62 : lw_okq (⟨"HangingKeysModel", "isHad", "(IIII)Z"⟩, 12) := ⟨⟨by decide +kernel, by decide +kernel⟩, List.mem_of_getElem? (i := 744) (by decide +kernel), List.mem_of_getElem? (i := 1004) (by decide +kernel), List.mem_of_getElem? (i := 1005) (by decide +kernel)⟩
theorem lw_p63 : lw_okq (⟨"HangingKeysModel", "isInSafe", "(II)Z"⟩, 12) := ⟨⟨by decide +kernel, by decide +kernel⟩, List.mem_of_getElem? (i := 744) (by decide +kernel), List.mem_of_getElem? (i := 1008) (by decide +kernel), List.mem_of_getElem? (i := 1009) (by decide +kernel)⟩
def lw_privs_4 : List (MethodName × Nat) := [(⟨"HangingKeysModel", "whyKeyNotThrown", "(I)I"⟩, 12), (⟨"HangingKeysModel", "whyNotThrown", "(I)I"⟩, 12), (⟨"HangingKeysModel", "throwMakes", "(I)I"⟩, 12), (⟨"HangingKeysModel", "keyThrown", "(I)I"⟩, 12), (⟨"HangingKeysModel", "isUnder", "(II)Z"⟩, 12), (⟨"HangingKeysModel", "makesAboveAnew", "(I)V"⟩, 12), (⟨"HangingKeysModel", "above", "(I)I"⟩, 12), (⟨"HangingKeysModel", "higher", "(II)I"⟩, 12), (⟨"HangingKeysModel", "whyBoxNotThrown", "(I)I"⟩, 12), (⟨"HangingKeysModel", "isLiveBox", "(I)Z"⟩, 12), (⟨"HangingKeysModel", "isBox", "(I)Z"⟩, 12), (⟨"HangingKeysModel", "boxThrown", "(I)I"⟩, 12), (⟨"HangingKeysModel", "openWith", "(I)I"⟩, 12), (⟨"HangingKeysModel", "open", "(III)V"⟩, 12), (⟨"HangingKeysModel", "isHad", "(IIII)Z"⟩, 12), (⟨"HangingKeysModel", "isInSafe", "(II)Z"⟩, 12)]
theorem lw_r4 : ∀ q ∈ lw_privs_4, lw_okq q := List.forall_mem_cons.mpr ⟨lw_p48, List.forall_mem_cons.mpr ⟨lw_p49, List.forall_mem_cons.mpr ⟨lw_p50, List.forall_mem_cons.mpr ⟨lw_p51, List.forall_mem_cons.mpr ⟨lw_p52, List.forall_mem_cons.mpr ⟨lw_p53, List.forall_mem_cons.mpr ⟨lw_p54, List.forall_mem_cons.mpr ⟨lw_p55, List.forall_mem_cons.mpr ⟨lw_p56, List.forall_mem_cons.mpr ⟨lw_p57, List.forall_mem_cons.mpr ⟨lw_p58, List.forall_mem_cons.mpr ⟨lw_p59, List.forall_mem_cons.mpr ⟨lw_p60, List.forall_mem_cons.mpr ⟨lw_p61, List.forall_mem_cons.mpr ⟨lw_p62, List.forall_mem_cons.mpr ⟨lw_p63, fun _ h => absurd h List.not_mem_nil⟩⟩⟩⟩⟩⟩⟩⟩⟩⟩⟩⟩⟩⟩⟩⟩
theorem lw_p64 : lw_okq (⟨"HangingKeysModel", "openBoxes", "()I"⟩, 12) := ⟨⟨by decide +kernel, by decide +kernel⟩, List.mem_of_getElem? (i := 744) (by decide +kernel), List.mem_of_getElem? (i := 1012) (by decide +kernel), List.mem_of_getElem? (i := 1013) (by decide +kernel)⟩
theorem lw_p65 : lw_okq (⟨"HangingKeysModel", "liveKeys", "()I"⟩, 12) := ⟨⟨by decide +kernel, by decide +kernel⟩, List.mem_of_getElem? (i := 744) (by decide +kernel), List.mem_of_getElem? (i := 1024) (by decide +kernel), List.mem_of_getElem? (i := 1025) (by decide +kernel)⟩
theorem lw_p66 : lw_okq (⟨"HangingKeysModel", "liveBoxes", "()I"⟩, 12) := ⟨⟨by decide +kernel, by decide +kernel⟩, List.mem_of_getElem? (i := 744) (by decide +kernel), List.mem_of_getElem? (i := 1028) (by decide +kernel), List.mem_of_getElem? (i := 1029) (by decide +kernel)⟩
theorem lw_p67 : lw_okq (⟨"HangingKeysModel", "inHouse", "()I"⟩, 12) := ⟨⟨by decide +kernel, by decide +kernel⟩, List.mem_of_getElem? (i := 744) (by decide +kernel), List.mem_of_getElem? (i := 1032) (by decide +kernel), List.mem_of_getElem? (i := 1033) (by decide +kernel)⟩
theorem lw_p68 : lw_okq (⟨"HangingKeysModel", "outside", "()I"⟩, 12) := ⟨⟨by decide +kernel, by decide +kernel⟩, List.mem_of_getElem? (i := 744) (by decide +kernel), List.mem_of_getElem? (i := 1036) (by decide +kernel), List.mem_of_getElem? (i := 1037) (by decide +kernel)⟩
theorem lw_p69 : lw_okq (⟨"HangingKeysModel", "wornKeys", "()I"⟩, 12) := ⟨⟨by decide +kernel, by decide +kernel⟩, List.mem_of_getElem? (i := 744) (by decide +kernel), List.mem_of_getElem? (i := 1040) (by decide +kernel), List.mem_of_getElem? (i := 1041) (by decide +kernel)⟩
theorem lw_p70 : lw_okq (⟨"HangingKeysModel", "houseWrap", "(II)I"⟩, 12) := ⟨⟨by decide +kernel, by decide +kernel⟩, List.mem_of_getElem? (i := 744) (by decide +kernel), List.mem_of_getElem? (i := 1056) (by decide +kernel), List.mem_of_getElem? (i := 1057) (by decide +kernel)⟩
theorem lw_p71 : lw_okq (⟨"HangingKeysModel", "leftOf", "(I)I"⟩, 12) := ⟨⟨by decide +kernel, by decide +kernel⟩, List.mem_of_getElem? (i := 744) (by decide +kernel), List.mem_of_getElem? (i := 1076) (by decide +kernel), List.mem_of_getElem? (i := 1077) (by decide +kernel)⟩
theorem lw_p72 : lw_okq (⟨"HangingKeysModel", "findFault", "()I"⟩, 12) := ⟨⟨by decide +kernel, by decide +kernel⟩, List.mem_of_getElem? (i := 744) (by decide +kernel), List.mem_of_getElem? (i := 1093) (by decide +kernel), List.mem_of_getElem? (i := 1094) (by decide +kernel)⟩
theorem lw_p73 : lw_okq (⟨"HangingKeysModel", "readsOrder", "()Z"⟩, 12) := ⟨⟨by decide +kernel, by decide +kernel⟩, List.mem_of_getElem? (i := 744) (by decide +kernel), List.mem_of_getElem? (i := 1097) (by decide +kernel), List.mem_of_getElem? (i := 1098) (by decide +kernel)⟩
theorem lw_p74 : lw_okq (⟨"HangingKeysModel", "character", "(I)I"⟩, 12) := ⟨⟨by decide +kernel, by decide +kernel⟩, List.mem_of_getElem? (i := 744) (by decide +kernel), List.mem_of_getElem? (i := 1101) (by decide +kernel), List.mem_of_getElem? (i := 1102) (by decide +kernel)⟩
theorem lw_p75 : lw_okq (⟨"HangingKeysModel", "takes", "(I)Z"⟩, 12) := ⟨⟨by decide +kernel, by decide +kernel⟩, List.mem_of_getElem? (i := 744) (by decide +kernel), List.mem_of_getElem? (i := 1108) (by decide +kernel), List.mem_of_getElem? (i := 1109) (by decide +kernel)⟩
theorem lw_p76 : lw_okq (⟨"HangingKeysModel", "takeNumber", "()I"⟩, 12) := ⟨⟨by decide +kernel, by decide +kernel⟩, List.mem_of_getElem? (i := 744) (by decide +kernel), List.mem_of_getElem? (i := 1112) (by decide +kernel), List.mem_of_getElem? (i := 1113) (by decide +kernel)⟩
theorem lw_p77 : lw_okq (⟨"HangingKeysModel", "whyNotDone", "()I"⟩, 12) := ⟨⟨by decide +kernel, by decide +kernel⟩, List.mem_of_getElem? (i := 744) (by decide +kernel), List.mem_of_getElem? (i := 1120) (by decide +kernel), List.mem_of_getElem? (i := 1121) (by decide +kernel)⟩
theorem lw_p78 : lw_okq (⟨"HangingKeysModel", "does", "()V"⟩, 12) := ⟨⟨by decide +kernel, by decide +kernel⟩, List.mem_of_getElem? (i := 744) (by decide +kernel), List.mem_of_getElem? (i := 1124) (by decide +kernel), List.mem_of_getElem? (i := 1125) (by decide +kernel)⟩
def lw_privs_5 : List (MethodName × Nat) := [(⟨"HangingKeysModel", "openBoxes", "()I"⟩, 12), (⟨"HangingKeysModel", "liveKeys", "()I"⟩, 12), (⟨"HangingKeysModel", "liveBoxes", "()I"⟩, 12), (⟨"HangingKeysModel", "inHouse", "()I"⟩, 12), (⟨"HangingKeysModel", "outside", "()I"⟩, 12), (⟨"HangingKeysModel", "wornKeys", "()I"⟩, 12), (⟨"HangingKeysModel", "houseWrap", "(II)I"⟩, 12), (⟨"HangingKeysModel", "leftOf", "(I)I"⟩, 12), (⟨"HangingKeysModel", "findFault", "()I"⟩, 12), (⟨"HangingKeysModel", "readsOrder", "()Z"⟩, 12), (⟨"HangingKeysModel", "character", "(I)I"⟩, 12), (⟨"HangingKeysModel", "takes", "(I)Z"⟩, 12), (⟨"HangingKeysModel", "takeNumber", "()I"⟩, 12), (⟨"HangingKeysModel", "whyNotDone", "()I"⟩, 12), (⟨"HangingKeysModel", "does", "()V"⟩, 12)]
theorem lw_r5 : ∀ q ∈ lw_privs_5, lw_okq q := List.forall_mem_cons.mpr ⟨lw_p64, List.forall_mem_cons.mpr ⟨lw_p65, List.forall_mem_cons.mpr ⟨lw_p66, List.forall_mem_cons.mpr ⟨lw_p67, List.forall_mem_cons.mpr ⟨lw_p68, List.forall_mem_cons.mpr ⟨lw_p69, List.forall_mem_cons.mpr ⟨lw_p70, List.forall_mem_cons.mpr ⟨lw_p71, List.forall_mem_cons.mpr ⟨lw_p72, List.forall_mem_cons.mpr ⟨lw_p73, List.forall_mem_cons.mpr ⟨lw_p74, List.forall_mem_cons.mpr ⟨lw_p75, List.forall_mem_cons.mpr ⟨lw_p76, List.forall_mem_cons.mpr ⟨lw_p77, List.forall_mem_cons.mpr ⟨lw_p78, fun _ h => absurd h List.not_mem_nil⟩⟩⟩⟩⟩⟩⟩⟩⟩⟩⟩⟩⟩⟩⟩
def lw_privs : List (MethodName × Nat) := lw_privs_1 ++ (lw_privs_2 ++ (lw_privs_3 ++ (lw_privs_4 ++ (lw_privs_5))))
def lw_tbl : List Cond := k2_sels lw_privs ++ tables_1
theorem lw_privs_ok : ∀ q ∈ lw_privs, lw_okq q := by
  show ∀ q ∈ lw_privs_1 ++ (lw_privs_2 ++ (lw_privs_3 ++ (lw_privs_4 ++ (lw_privs_5)))), lw_okq q
  exact List.forall_mem_append.mpr ⟨lw_r1, List.forall_mem_append.mpr ⟨lw_r2, List.forall_mem_append.mpr ⟨lw_r3, List.forall_mem_append.mpr ⟨lw_r4, lw_r5⟩⟩⟩⟩
-- ===== end of PART A; then your names; then what follows =====
end
section
/-! names, the tables' words one by one (a program wrote them out of the printed claim) -/
def RX0 : String := "HangingKeys$History"
def TX0 : u_T := fun k => match k with
  | 0 => ("HangingKeys$History", "states", "[LHangingKeys$House;", true)
  | 1 => ("HangingKeys$History", "spare", "I", false)
  | _ => ("HangingKeys$History", "number", "I", false)
def tyX0 : Nat → FieldType := fun k => match k with
  | 0 => .array (.object "HangingKeys$House")
  | 1 => .int
  | _ => .int
abbrev wsX00 : List Cond := u_ws RX0 TX0 3
theorem nmX0 : ∀ a, a < 3 → ∀ b, b < 3 → a ≠ b → (TX0 a).2.1 ≠ (TX0 b).2.1 := by decide +kernel
theorem tyX0_ok : ∀ k, k < 3 → parseFieldDescriptor (TX0 k).2.2.1 = some (tyX0 k) := by decide +kernel
abbrev cX0_init : ByteArray := prog_2_method_1_code
def yX0_init : MethodName := ⟨RX0, "<init>", "()V"⟩
abbrev cX0_noteBefore : ByteArray := prog_2_method_2_code
def yX0_noteBefore : MethodName := ⟨RX0, "noteBefore", "(LHangingKeys$House;)V"⟩
abbrev cX0_settle : ByteArray := prog_2_method_3_code
def yX0_settle : MethodName := ⟨RX0, "settle", "(I)I"⟩
abbrev cX0_stepBack : ByteArray := prog_2_method_4_code
def yX0_stepBack : MethodName := ⟨RX0, "stepBack", "(LHangingKeys$House;)I"⟩
abbrev cX0_stateAt : ByteArray := prog_2_method_5_code
def yX0_stateAt : MethodName := ⟨RX0, "stateAt", "(I)LHangingKeys$House;"⟩
def RX1 : String := "HangingKeys$House"
def TX1 : u_T := fun k => match k with
  | 0 => ("HangingKeys$House", "tree", "LHangingKeys$Tree;", true)
  | _ => ("HangingKeys$House", "wraps", "LHangingKeys$Wraps;", true)
def tyX1 : Nat → FieldType := fun k => match k with
  | 0 => .object "HangingKeys$Tree"
  | _ => .object "HangingKeys$Wraps"
abbrev wsX10 : List Cond := u_ws RX1 TX1 2
theorem nmX1 : ∀ a, a < 2 → ∀ b, b < 2 → a ≠ b → (TX1 a).2.1 ≠ (TX1 b).2.1 := by decide +kernel
theorem tyX1_ok : ∀ k, k < 2 → parseFieldDescriptor (TX1 k).2.2.1 = some (tyX1 k) := by decide +kernel
abbrev cX1_init : ByteArray := prog_3_method_1_code
def yX1_init : MethodName := ⟨RX1, "<init>", "()V"⟩
abbrev cX1_changeWear : ByteArray := prog_3_method_2_code
def yX1_changeWear : MethodName := ⟨RX1, "changeWear", "(I)I"⟩
abbrev cX1_makeKey : ByteArray := prog_3_method_3_code
def yX1_makeKey : MethodName := ⟨RX1, "makeKey", "(I)I"⟩
abbrev cX1_makeBox : ByteArray := prog_3_method_4_code
def yX1_makeBox : MethodName := ⟨RX1, "makeBox", "(I)I"⟩
abbrev cX1_copyOut : ByteArray := prog_3_method_5_code
def yX1_copyOut : MethodName := ⟨RX1, "copyOut", "(II)I"⟩
abbrev cX1_makeAnew : ByteArray := prog_3_method_6_code
def yX1_makeAnew : MethodName := ⟨RX1, "makeAnew", "(I)I"⟩
abbrev cX1_throwAway : ByteArray := prog_3_method_7_code
def yX1_throwAway : MethodName := ⟨RX1, "throwAway", "(II)I"⟩
abbrev cX1_wrapsByThrowing : ByteArray := prog_3_method_8_code
def yX1_wrapsByThrowing : MethodName := ⟨RX1, "wrapsByThrowing", "(II)I"⟩
abbrev cX1_hangingWithout : ByteArray := prog_3_method_9_code
def yX1_hangingWithout : MethodName := ⟨RX1, "hangingWithout", "(III)I"⟩
abbrev cX1_canWrapAgain : ByteArray := prog_3_method_10_code
def yX1_canWrapAgain : MethodName := ⟨RX1, "canWrapAgain", "(III)Z"⟩
abbrev cX1_startNextMakes : ByteArray := prog_3_method_11_code
def yX1_startNextMakes : MethodName := ⟨RX1, "startNextMakes", "(I)V"⟩
abbrev cX1_wrapAllOn : ByteArray := prog_3_method_12_code
def yX1_wrapAllOn : MethodName := ⟨RX1, "wrapAllOn", "(I)V"⟩
abbrev cX1_wrapKey : ByteArray := prog_3_method_13_code
def yX1_wrapKey : MethodName := ⟨RX1, "wrapKey", "(I)V"⟩
abbrev cX1_wrapBox : ByteArray := prog_3_method_14_code
def yX1_wrapBox : MethodName := ⟨RX1, "wrapBox", "(I)V"⟩
abbrev cX1_stepOfWay : ByteArray := prog_3_method_15_code
def yX1_stepOfWay : MethodName := ⟨RX1, "stepOfWay", "(II)I"⟩
abbrev cX1_become : ByteArray := prog_3_method_16_code
def yX1_become : MethodName := ⟨RX1, "become", "(LHangingKeys$House;)V"⟩
def RX2 : String := "HangingKeys$Opening"
def TX2 : u_T := fun k => match k with
  | 0 => ("HangingKeys$Opening", "startMakes", "LHangingKeys$Row;", true)
  | _ => ("HangingKeys$Opening", "opened", "LHangingKeys$Row;", true)
def tyX2 : Nat → FieldType := fun k => match k with
  | 0 => .object "HangingKeys$Row"
  | _ => .object "HangingKeys$Row"
abbrev wsX20 : List Cond := u_ws RX2 TX2 2
theorem nmX2 : ∀ a, a < 2 → ∀ b, b < 2 → a ≠ b → (TX2 a).2.1 ≠ (TX2 b).2.1 := by decide +kernel
theorem tyX2_ok : ∀ k, k < 2 → parseFieldDescriptor (TX2 k).2.2.1 = some (tyX2 k) := by decide +kernel
abbrev cX2_init : ByteArray := prog_4_method_1_code
def yX2_init : MethodName := ⟨RX2, "<init>", "()V"⟩
abbrev cX2_boxesWith : ByteArray := prog_4_method_2_code
def yX2_boxesWith : MethodName := ⟨RX2, "boxesWith", "(LHangingKeys$House;I)I"⟩
abbrev cX2_canHaveKey : ByteArray := prog_4_method_3_code
def yX2_canHaveKey : MethodName := ⟨RX2, "canHaveKey", "(LHangingKeys$House;III)Z"⟩
abbrev cX2_boxesByLeak : ByteArray := prog_4_method_4_code
def yX2_boxesByLeak : MethodName := ⟨RX2, "boxesByLeak", "(LHangingKeys$House;III)I"⟩
abbrev cX2_startFromSafe : ByteArray := prog_4_method_5_code
def yX2_startFromSafe : MethodName := ⟨RX2, "startFromSafe", "(LHangingKeys$Tree;)V"⟩
abbrev cX2_openAll : ByteArray := prog_4_method_6_code
def yX2_openAll : MethodName := ⟨RX2, "openAll", "(LHangingKeys$Wraps;I)V"⟩
abbrev cX2_openHolding : ByteArray := prog_4_method_7_code
def yX2_openHolding : MethodName := ⟨RX2, "openHolding", "(LHangingKeys$Wraps;II)V"⟩
abbrev cX2_isHad : ByteArray := prog_4_method_8_code
def yX2_isHad : MethodName := ⟨RX2, "isHad", "(LHangingKeys$Wraps;II)Z"⟩
abbrev cX2_openedBoxes : ByteArray := prog_4_method_9_code
def yX2_openedBoxes : MethodName := ⟨RX2, "openedBoxes", "(LHangingKeys$Wraps;)I"⟩
def RX3 : String := "HangingKeys$Pad"
def TX3 : u_T := fun k => match k with
  | 0 => ("HangingKeys$Pad", "signs", "LHangingKeys$Row;", true)
  | 1 => ("HangingKeys$Pad", "length", "I", false)
  | 2 => ("HangingKeys$Pad", "next", "I", false)
  | 3 => ("HangingKeys$Pad", "letter", "I", false)
  | 4 => ("HangingKeys$Pad", "target", "I", false)
  | _ => ("HangingKeys$Pad", "place", "I", false)
def tyX3 : Nat → FieldType := fun k => match k with
  | 0 => .object "HangingKeys$Row"
  | 1 => .int
  | 2 => .int
  | 3 => .int
  | 4 => .int
  | _ => .int
abbrev wsX30 : List Cond := u_ws RX3 TX3 6
theorem nmX3 : ∀ a, a < 6 → ∀ b, b < 6 → a ≠ b → (TX3 a).2.1 ≠ (TX3 b).2.1 := by decide +kernel
theorem tyX3_ok : ∀ k, k < 6 → parseFieldDescriptor (TX3 k).2.2.1 = some (tyX3 k) := by decide +kernel
abbrev cX3_init : ByteArray := prog_5_method_1_code
def yX3_init : MethodName := ⟨RX3, "<init>", "()V"⟩
abbrev cX3_append : ByteArray := prog_5_method_2_code
def yX3_append : MethodName := ⟨RX3, "append", "(J)I"⟩
abbrev cX3_signFromRight : ByteArray := prog_5_method_3_code
def yX3_signFromRight : MethodName := ⟨RX3, "signFromRight", "(JI)I"⟩
abbrev cX3_charactersIn : ByteArray := prog_5_method_4_code
def yX3_charactersIn : MethodName := ⟨RX3, "charactersIn", "(J)I"⟩
abbrev cX3_clear : ByteArray := prog_5_method_5_code
def yX3_clear : MethodName := ⟨RX3, "clear", "()I"⟩
abbrev cX3_findFault : ByteArray := prog_5_method_6_code
def yX3_findFault : MethodName := ⟨RX3, "findFault", "()I"⟩
abbrev cX3_startReading : ByteArray := prog_5_method_7_code
def yX3_startReading : MethodName := ⟨RX3, "startReading", "()V"⟩
abbrev cX3_hasMore : ByteArray := prog_5_method_8_code
def yX3_hasMore : MethodName := ⟨RX3, "hasMore", "()Z"⟩
abbrev cX3_readNext : ByteArray := prog_5_method_9_code
def yX3_readNext : MethodName := ⟨RX3, "readNext", "()Z"⟩
abbrev cX3_readOrder : ByteArray := prog_5_method_10_code
def yX3_readOrder : MethodName := ⟨RX3, "readOrder", "()Z"⟩
abbrev cX3_readNumber : ByteArray := prog_5_method_11_code
def yX3_readNumber : MethodName := ⟨RX3, "readNumber", "()Z"⟩
abbrev cX3_readPlace : ByteArray := prog_5_method_12_code
def yX3_readPlace : MethodName := ⟨RX3, "readPlace", "()Z"⟩
abbrev cX3_skip : ByteArray := prog_5_method_13_code
def yX3_skip : MethodName := ⟨RX3, "skip", "(I)Z"⟩
abbrev cX3_nextSign : ByteArray := prog_5_method_14_code
def yX3_nextSign : MethodName := ⟨RX3, "nextSign", "()I"⟩
abbrev cX3_isDigit : ByteArray := prog_5_method_15_code
def yX3_isDigit : MethodName := ⟨RX3, "isDigit", "(II)Z"⟩
abbrev cX3_isLetter : ByteArray := prog_5_method_16_code
def yX3_isLetter : MethodName := ⟨RX3, "isLetter", "(I)Z"⟩
def RX4 : String := "HangingKeys$Row"
def TX4 : u_T := fun k => match k with
  | _ => ("HangingKeys$Row", "cells", "[I", true)
def tyX4 : Nat → FieldType := fun k => match k with
  | _ => .array .int
abbrev wsX40 : List Cond := u_ws RX4 TX4 1
theorem nmX4 : ∀ a, a < 1 → ∀ b, b < 1 → a ≠ b → (TX4 a).2.1 ≠ (TX4 b).2.1 := by decide +kernel
theorem tyX4_ok : ∀ k, k < 1 → parseFieldDescriptor (TX4 k).2.2.1 = some (tyX4 k) := by decide +kernel
abbrev cX4_init : ByteArray := prog_6_method_1_code
def yX4_init : MethodName := ⟨RX4, "<init>", "(I)V"⟩
abbrev cX4_at : ByteArray := prog_6_method_2_code
def yX4_at : MethodName := ⟨RX4, "at", "(I)I"⟩
abbrev cX4_set : ByteArray := prog_6_method_3_code
def yX4_set : MethodName := ⟨RX4, "set", "(II)V"⟩
abbrev cX4_add : ByteArray := prog_6_method_4_code
def yX4_add : MethodName := ⟨RX4, "add", "(II)V"⟩
abbrev cX4_fill : ByteArray := prog_6_method_5_code
def yX4_fill : MethodName := ⟨RX4, "fill", "(I)V"⟩
abbrev cX4_become : ByteArray := prog_6_method_6_code
def yX4_become : MethodName := ⟨RX4, "become", "(LHangingKeys$Row;)V"⟩
def RX5 : String := "HangingKeys$Tree"
def TX5 : u_T := fun k => match k with
  | 0 => ("HangingKeys$Tree", "mostWear", "I", false)
  | 1 => ("HangingKeys$Tree", "keys", "I", false)
  | 2 => ("HangingKeys$Tree", "boxes", "I", false)
  | 3 => ("HangingKeys$Tree", "liveKeys", "I", false)
  | 4 => ("HangingKeys$Tree", "liveBoxes", "I", false)
  | 5 => ("HangingKeys$Tree", "parents", "LHangingKeys$Row;", true)
  | 6 => ("HangingKeys$Tree", "makes", "LHangingKeys$Row;", true)
  | 7 => ("HangingKeys$Tree", "wears", "LHangingKeys$Row;", true)
  | _ => ("HangingKeys$Tree", "keysOfBoxes", "LHangingKeys$Row;", true)
def tyX5 : Nat → FieldType := fun k => match k with
  | 0 => .int
  | 1 => .int
  | 2 => .int
  | 3 => .int
  | 4 => .int
  | 5 => .object "HangingKeys$Row"
  | 6 => .object "HangingKeys$Row"
  | 7 => .object "HangingKeys$Row"
  | _ => .object "HangingKeys$Row"
abbrev wsX50 : List Cond := u_ws RX5 TX5 9
theorem nmX5 : ∀ a, a < 9 → ∀ b, b < 9 → a ≠ b → (TX5 a).2.1 ≠ (TX5 b).2.1 := by decide +kernel
theorem tyX5_ok : ∀ k, k < 9 → parseFieldDescriptor (TX5 k).2.2.1 = some (tyX5 k) := by decide +kernel
abbrev cX5_init : ByteArray := prog_7_method_1_code
def yX5_init : MethodName := ⟨RX5, "<init>", "()V"⟩
abbrev cX5_hasKey : ByteArray := prog_7_method_2_code
def yX5_hasKey : MethodName := ⟨RX5, "hasKey", "(I)Z"⟩
abbrev cX5_hasBox : ByteArray := prog_7_method_3_code
def yX5_hasBox : MethodName := ⟨RX5, "hasBox", "(I)Z"⟩
abbrev cX5_isLiveKey : ByteArray := prog_7_method_4_code
def yX5_isLiveKey : MethodName := ⟨RX5, "isLiveKey", "(I)Z"⟩
abbrev cX5_isLiveBox : ByteArray := prog_7_method_5_code
def yX5_isLiveBox : MethodName := ⟨RX5, "isLiveBox", "(I)Z"⟩
abbrev cX5_isLive : ByteArray := prog_7_method_6_code
def yX5_isLive : MethodName := ⟨RX5, "isLive", "(II)Z"⟩
abbrev cX5_isRoot : ByteArray := prog_7_method_7_code
def yX5_isRoot : MethodName := ⟨RX5, "isRoot", "(I)Z"⟩
abbrev cX5_parentOf : ByteArray := prog_7_method_8_code
def yX5_parentOf : MethodName := ⟨RX5, "parentOf", "(I)I"⟩
abbrev cX5_makeOf : ByteArray := prog_7_method_9_code
def yX5_makeOf : MethodName := ⟨RX5, "makeOf", "(I)I"⟩
abbrev cX5_wearOf : ByteArray := prog_7_method_10_code
def yX5_wearOf : MethodName := ⟨RX5, "wearOf", "(I)I"⟩
abbrev cX5_keyOfBox : ByteArray := prog_7_method_11_code
def yX5_keyOfBox : MethodName := ⟨RX5, "keyOfBox", "(I)I"⟩
abbrev cX5_leftToClose : ByteArray := prog_7_method_12_code
def yX5_leftToClose : MethodName := ⟨RX5, "leftToClose", "(I)I"⟩
abbrev cX5_above : ByteArray := prog_7_method_13_code
def yX5_above : MethodName := ⟨RX5, "above", "(I)I"⟩
abbrev cX5_aboveBox : ByteArray := prog_7_method_14_code
def yX5_aboveBox : MethodName := ⟨RX5, "aboveBox", "(I)I"⟩
abbrev cX5_aboveThat : ByteArray := prog_7_method_15_code
def yX5_aboveThat : MethodName := ⟨RX5, "aboveThat", "(II)I"⟩
abbrev cX5_withAllBelow : ByteArray := prog_7_method_16_code
def yX5_withAllBelow : MethodName := ⟨RX5, "withAllBelow", "(I)I"⟩
abbrev cX5_liveKeysOn : ByteArray := prog_7_method_17_code
def yX5_liveKeysOn : MethodName := ⟨RX5, "liveKeysOn", "(I)I"⟩
abbrev cX5_liveBoxesOn : ByteArray := prog_7_method_18_code
def yX5_liveBoxesOn : MethodName := ⟨RX5, "liveBoxesOn", "(I)I"⟩
abbrev cX5_wornKeys : ByteArray := prog_7_method_19_code
def yX5_wornKeys : MethodName := ⟨RX5, "wornKeys", "()I"⟩
abbrev cX5_mostWornKey : ByteArray := prog_7_method_20_code
def yX5_mostWornKey : MethodName := ⟨RX5, "mostWornKey", "()I"⟩
abbrev cX5_addKey : ByteArray := prog_7_method_21_code
def yX5_addKey : MethodName := ⟨RX5, "addKey", "(I)I"⟩
abbrev cX5_addBox : ByteArray := prog_7_method_22_code
def yX5_addBox : MethodName := ⟨RX5, "addBox", "(I)I"⟩
abbrev cX5_startNextMake : ByteArray := prog_7_method_23_code
def yX5_startNextMake : MethodName := ⟨RX5, "startNextMake", "(I)V"⟩
abbrev cX5_wearDown : ByteArray := prog_7_method_24_code
def yX5_wearDown : MethodName := ⟨RX5, "wearDown", "(I)V"⟩
abbrev cX5_endLife : ByteArray := prog_7_method_25_code
def yX5_endLife : MethodName := ⟨RX5, "endLife", "(II)V"⟩
abbrev cX5_become : ByteArray := prog_7_method_26_code
def yX5_become : MethodName := ⟨RX5, "become", "(LHangingKeys$Tree;)V"⟩
def RX6 : String := "HangingKeys$Wraps"
def TX6 : u_T := fun k => match k with
  | 0 => ("HangingKeys$Wraps", "number", "I", false)
  | 1 => ("HangingKeys$Wraps", "heldKeys", "LHangingKeys$Row;", true)
  | 2 => ("HangingKeys$Wraps", "heldWhats", "LHangingKeys$Row;", true)
  | 3 => ("HangingKeys$Wraps", "closers", "LHangingKeys$Row;", true)
  | 4 => ("HangingKeys$Wraps", "closerMakes", "LHangingKeys$Row;", true)
  | _ => ("HangingKeys$Wraps", "stands", "LHangingKeys$Row;", true)
def tyX6 : Nat → FieldType := fun k => match k with
  | 0 => .int
  | 1 => .object "HangingKeys$Row"
  | 2 => .object "HangingKeys$Row"
  | 3 => .object "HangingKeys$Row"
  | 4 => .object "HangingKeys$Row"
  | _ => .object "HangingKeys$Row"
abbrev wsX60 : List Cond := u_ws RX6 TX6 6
theorem nmX6 : ∀ a, a < 6 → ∀ b, b < 6 → a ≠ b → (TX6 a).2.1 ≠ (TX6 b).2.1 := by decide +kernel
theorem tyX6_ok : ∀ k, k < 6 → parseFieldDescriptor (TX6 k).2.2.1 = some (tyX6 k) := by decide +kernel
abbrev cX6_init : ByteArray := prog_8_method_1_code
def yX6_init : MethodName := ⟨RX6, "<init>", "()V"⟩
abbrev cX6_isOne : ByteArray := prog_8_method_2_code
def yX6_isOne : MethodName := ⟨RX6, "isOne", "(I)Z"⟩
abbrev cX6_haveRoomFor : ByteArray := prog_8_method_3_code
def yX6_haveRoomFor : MethodName := ⟨RX6, "haveRoomFor", "(I)Z"⟩
abbrev cX6_heldKey : ByteArray := prog_8_method_4_code
def yX6_heldKey : MethodName := ⟨RX6, "heldKey", "(I)I"⟩
abbrev cX6_heldWhat : ByteArray := prog_8_method_5_code
def yX6_heldWhat : MethodName := ⟨RX6, "heldWhat", "(I)I"⟩
abbrev cX6_closer : ByteArray := prog_8_method_6_code
def yX6_closer : MethodName := ⟨RX6, "closer", "(I)I"⟩
abbrev cX6_closerMake : ByteArray := prog_8_method_7_code
def yX6_closerMake : MethodName := ⟨RX6, "closerMake", "(I)I"⟩
abbrev cX6_standsIn : ByteArray := prog_8_method_8_code
def yX6_standsIn : MethodName := ⟨RX6, "standsIn", "(II)Z"⟩
abbrev cX6_placesOf : ByteArray := prog_8_method_9_code
def yX6_placesOf : MethodName := ⟨RX6, "placesOf", "(I)I"⟩
abbrev cX6_standingIn : ByteArray := prog_8_method_10_code
def yX6_standingIn : MethodName := ⟨RX6, "standingIn", "(I)I"⟩
abbrev cX6_holdsMake : ByteArray := prog_8_method_11_code
def yX6_holdsMake : MethodName := ⟨RX6, "holdsMake", "(III)Z"⟩
abbrev cX6_holdsBox : ByteArray := prog_8_method_12_code
def yX6_holdsBox : MethodName := ⟨RX6, "holdsBox", "(II)Z"⟩
abbrev cX6_inHouseWithKey : ByteArray := prog_8_method_13_code
def yX6_inHouseWithKey : MethodName := ⟨RX6, "inHouseWithKey", "(II)I"⟩
abbrev cX6_inHouseWithBox : ByteArray := prog_8_method_14_code
def yX6_inHouseWithBox : MethodName := ⟨RX6, "inHouseWithBox", "(I)I"⟩
abbrev cX6_add : ByteArray := prog_8_method_15_code
def yX6_add : MethodName := ⟨RX6, "add", "(IIII)V"⟩
abbrev cX6_standAlsoIn : ByteArray := prog_8_method_16_code
def yX6_standAlsoIn : MethodName := ⟨RX6, "standAlsoIn", "(II)V"⟩
abbrev cX6_burnHolding : ByteArray := prog_8_method_17_code
def yX6_burnHolding : MethodName := ⟨RX6, "burnHolding", "(II)V"⟩
abbrev cX6_burnOlderThan : ByteArray := prog_8_method_18_code
def yX6_burnOlderThan : MethodName := ⟨RX6, "burnOlderThan", "(II)V"⟩
abbrev cX6_burn : ByteArray := prog_8_method_19_code
def yX6_burn : MethodName := ⟨RX6, "burn", "(I)V"⟩
abbrev cX6_become : ByteArray := prog_8_method_20_code
def yX6_become : MethodName := ⟨RX6, "become", "(LHangingKeys$Wraps;)V"⟩
def RX7 : String := "HangingKeys"
def TX7 : u_T := fun k => match k with
  | 0 => ("HangingKeys", "house", "LHangingKeys$House;", true)
  | 1 => ("HangingKeys", "opening", "LHangingKeys$Opening;", true)
  | 2 => ("HangingKeys", "pad", "LHangingKeys$Pad;", true)
  | 3 => ("HangingKeys", "history", "LHangingKeys$History;", true)
  | _ => ("HangingKeys", "slots", "[LHangingKeys$House;", true)
def tyX7 : Nat → FieldType := fun k => match k with
  | 0 => .object "HangingKeys$House"
  | 1 => .object "HangingKeys$Opening"
  | 2 => .object "HangingKeys$Pad"
  | 3 => .object "HangingKeys$History"
  | _ => .array (.object "HangingKeys$House")
abbrev wsX70 : List Cond := u_ws RX7 TX7 5
theorem nmX7 : ∀ a, a < 5 → ∀ b, b < 5 → a ≠ b → (TX7 a).2.1 ≠ (TX7 b).2.1 := by decide +kernel
theorem tyX7_ok : ∀ k, k < 5 → parseFieldDescriptor (TX7 k).2.2.1 = some (tyX7 k) := by decide +kernel
abbrev cX7_init : ByteArray := prog_1_method_1_code
def yX7_init : MethodName := ⟨RX7, "<init>", "()V"⟩
abbrev cX7_wear : ByteArray := prog_1_method_2_code
def yX7_wear : MethodName := ⟨RX7, "wear", "(I)I"⟩
abbrev cX7_key : ByteArray := prog_1_method_3_code
def yX7_key : MethodName := ⟨RX7, "key", "(I)I"⟩
abbrev cX7_box : ByteArray := prog_1_method_4_code
def yX7_box : MethodName := ⟨RX7, "box", "(I)I"⟩
abbrev cX7_copy : ByteArray := prog_1_method_5_code
def yX7_copy : MethodName := ⟨RX7, "copy", "(II)I"⟩
abbrev cX7_renew : ByteArray := prog_1_method_6_code
def yX7_renew : MethodName := ⟨RX7, "renew", "(I)I"⟩
abbrev cX7_throwKey : ByteArray := prog_1_method_7_code
def yX7_throwKey : MethodName := ⟨RX7, "throwKey", "(I)I"⟩
abbrev cX7_throwBox : ByteArray := prog_1_method_8_code
def yX7_throwBox : MethodName := ⟨RX7, "throwBox", "(I)I"⟩
abbrev cX7_ofKey : ByteArray := prog_1_method_9_code
def yX7_ofKey : MethodName := ⟨RX7, "ofKey", "(II)I"⟩
abbrev cX7_ofBox : ByteArray := prog_1_method_10_code
def yX7_ofBox : MethodName := ⟨RX7, "ofBox", "(II)I"⟩
abbrev cX7_wrap : ByteArray := prog_1_method_11_code
def yX7_wrap : MethodName := ⟨RX7, "wrap", "(II)I"⟩
abbrev cX7_count : ByteArray := prog_1_method_12_code
def yX7_count : MethodName := ⟨RX7, "count", "(I)I"⟩
abbrev cX7_canOpen : ByteArray := prog_1_method_13_code
def yX7_canOpen : MethodName := ⟨RX7, "canOpen", "(II)I"⟩
abbrev cX7_canHave : ByteArray := prog_1_method_14_code
def yX7_canHave : MethodName := ⟨RX7, "canHave", "(III)I"⟩
abbrev cX7_way : ByteArray := prog_1_method_15_code
def yX7_way : MethodName := ⟨RX7, "way", "(II)I"⟩
abbrev cX7_leaks : ByteArray := prog_1_method_16_code
def yX7_leaks : MethodName := ⟨RX7, "leaks", "(III)I"⟩
abbrev cX7_lostBy : ByteArray := prog_1_method_17_code
def yX7_lostBy : MethodName := ⟨RX7, "lostBy", "(I)I"⟩
abbrev cX7_throwingMakes : ByteArray := prog_1_method_18_code
def yX7_throwingMakes : MethodName := ⟨RX7, "throwingMakes", "(II)I"⟩
abbrev cX7_mostWorn : ByteArray := prog_1_method_19_code
def yX7_mostWorn : MethodName := ⟨RX7, "mostWorn", "(I)I"⟩
abbrev cX7_put : ByteArray := prog_1_method_20_code
def yX7_put : MethodName := ⟨RX7, "put", "(J)I"⟩
abbrev cX7_wipe : ByteArray := prog_1_method_21_code
def yX7_wipe : MethodName := ⟨RX7, "wipe", "()I"⟩
abbrev cX7_fault : ByteArray := prog_1_method_22_code
def yX7_fault : MethodName := ⟨RX7, "fault", "()I"⟩
abbrev cX7_carryOut : ByteArray := prog_1_method_23_code
def yX7_carryOut : MethodName := ⟨RX7, "carryOut", "()I"⟩
abbrev cX7_carryOutOrder : ByteArray := prog_1_method_24_code
def yX7_carryOutOrder : MethodName := ⟨RX7, "carryOutOrder", "()I"⟩
abbrev cX7_undo : ByteArray := prog_1_method_25_code
def yX7_undo : MethodName := ⟨RX7, "undo", "()I"⟩
abbrev cX7_save : ByteArray := prog_1_method_26_code
def yX7_save : MethodName := ⟨RX7, "save", "(I)I"⟩
abbrev cX7_restore : ByteArray := prog_1_method_27_code
def yX7_restore : MethodName := ⟨RX7, "restore", "(I)I"⟩
abbrev cX7_oneIf : ByteArray := prog_1_method_28_code
def yX7_oneIf : MethodName := ⟨RX7, "oneIf", "(Z)I"⟩
abbrev cX7_setOf : ByteArray := prog_1_method_29_code
def yX7_setOf : MethodName := ⟨RX7, "setOf", "(I)I"⟩
abbrev cX7_has : ByteArray := prog_1_method_30_code
def yX7_has : MethodName := ⟨RX7, "has", "(II)Z"⟩
abbrev cX7_arePlaces : ByteArray := prog_1_method_31_code
def yX7_arePlaces : MethodName := ⟨RX7, "arePlaces", "(I)Z"⟩
def RX8 : String := "HangingKeysModel"
def TX8 : u_T := fun k => match k with
  | 0 => ("HangingKeysModel", "state", "[I", true)
  | 1 => ("HangingKeysModel", "history", "[I", true)
  | 2 => ("HangingKeysModel", "recorded", "I", false)
  | 3 => ("HangingKeysModel", "slots", "[I", true)
  | 4 => ("HangingKeysModel", "isSaved", "[I", true)
  | 5 => ("HangingKeysModel", "pad", "[I", true)
  | 6 => ("HangingKeysModel", "padLength", "I", false)
  | 7 => ("HangingKeysModel", "opened", "[I", true)
  | 8 => ("HangingKeysModel", "at", "I", false)
  | 9 => ("HangingKeysModel", "letter", "I", false)
  | 10 => ("HangingKeysModel", "first", "I", false)
  | _ => ("HangingKeysModel", "second", "I", false)
def tyX8 : Nat → FieldType := fun k => match k with
  | 0 => .array .int
  | 1 => .array .int
  | 2 => .int
  | 3 => .array .int
  | 4 => .array .int
  | 5 => .array .int
  | 6 => .int
  | 7 => .array .int
  | 8 => .int
  | 9 => .int
  | 10 => .int
  | _ => .int
abbrev wsX80 : List Cond := u_ws RX8 TX8 12
theorem nmX8 : ∀ a, a < 12 → ∀ b, b < 12 → a ≠ b → (TX8 a).2.1 ≠ (TX8 b).2.1 := by decide +kernel
theorem tyX8_ok : ∀ k, k < 12 → parseFieldDescriptor (TX8 k).2.2.1 = some (tyX8 k) := by decide +kernel
abbrev cX8_init : ByteArray := prog_10_method_1_code
def yX8_init : MethodName := ⟨RX8, "<init>", "()V"⟩
abbrev cX8_moves : ByteArray := prog_10_method_3_code
def yX8_moves : MethodName := ⟨RX8, "moves", "([II[II)V"⟩
abbrev cX8_within : ByteArray := prog_10_method_4_code
def yX8_within : MethodName := ⟨RX8, "within", "(III)Z"⟩
abbrev cX8_record : ByteArray := prog_10_method_5_code
def yX8_record : MethodName := ⟨RX8, "record", "()V"⟩
abbrev cX8_keyPart : ByteArray := prog_10_method_6_code
def yX8_keyPart : MethodName := ⟨RX8, "keyPart", "(II)I"⟩
abbrev cX8_setKey : ByteArray := prog_10_method_7_code
def yX8_setKey : MethodName := ⟨RX8, "setKey", "(III)V"⟩
abbrev cX8_boxPart : ByteArray := prog_10_method_8_code
def yX8_boxPart : MethodName := ⟨RX8, "boxPart", "(II)I"⟩
abbrev cX8_setBox : ByteArray := prog_10_method_9_code
def yX8_setBox : MethodName := ⟨RX8, "setBox", "(III)V"⟩
abbrev cX8_wrapPart : ByteArray := prog_10_method_10_code
def yX8_wrapPart : MethodName := ⟨RX8, "wrapPart", "(II)I"⟩
abbrev cX8_setWrap : ByteArray := prog_10_method_11_code
def yX8_setWrap : MethodName := ⟨RX8, "setWrap", "(III)V"⟩
abbrev cX8_isKey : ByteArray := prog_10_method_12_code
def yX8_isKey : MethodName := ⟨RX8, "isKey", "(I)Z"⟩
abbrev cX8_isLiveKey : ByteArray := prog_10_method_13_code
def yX8_isLiveKey : MethodName := ⟨RX8, "isLiveKey", "(I)Z"⟩
abbrev cX8_isBox : ByteArray := prog_10_method_14_code
def yX8_isBox : MethodName := ⟨RX8, "isBox", "(I)Z"⟩
abbrev cX8_isLiveBox : ByteArray := prog_10_method_15_code
def yX8_isLiveBox : MethodName := ⟨RX8, "isLiveBox", "(I)Z"⟩
abbrev cX8_isRoot : ByteArray := prog_10_method_16_code
def yX8_isRoot : MethodName := ⟨RX8, "isRoot", "(I)Z"⟩
abbrev cX8_canClose : ByteArray := prog_10_method_17_code
def yX8_canClose : MethodName := ⟨RX8, "canClose", "(I)Z"⟩
abbrev cX8_isUnder : ByteArray := prog_10_method_18_code
def yX8_isUnder : MethodName := ⟨RX8, "isUnder", "(II)Z"⟩
abbrev cX8_above : ByteArray := prog_10_method_19_code
def yX8_above : MethodName := ⟨RX8, "above", "(I)I"⟩
abbrev cX8_higher : ByteArray := prog_10_method_20_code
def yX8_higher : MethodName := ⟨RX8, "higher", "(II)I"⟩
abbrev cX8_hangingKeys : ByteArray := prog_10_method_21_code
def yX8_hangingKeys : MethodName := ⟨RX8, "hangingKeys", "(I)I"⟩
abbrev cX8_hangingBoxes : ByteArray := prog_10_method_22_code
def yX8_hangingBoxes : MethodName := ⟨RX8, "hangingBoxes", "(I)I"⟩
abbrev cX8_bits : ByteArray := prog_10_method_23_code
def yX8_bits : MethodName := ⟨RX8, "bits", "(I)I"⟩
abbrev cX8_hangingFrom : ByteArray := prog_10_method_24_code
def yX8_hangingFrom : MethodName := ⟨RX8, "hangingFrom", "(I)I"⟩
abbrev cX8_makeWrap : ByteArray := prog_10_method_25_code
def yX8_makeWrap : MethodName := ⟨RX8, "makeWrap", "(III)V"⟩
abbrev cX8_wrapKey : ByteArray := prog_10_method_26_code
def yX8_wrapKey : MethodName := ⟨RX8, "wrapKey", "(I)V"⟩
abbrev cX8_wrapBox : ByteArray := prog_10_method_27_code
def yX8_wrapBox : MethodName := ⟨RX8, "wrapBox", "(I)V"⟩
abbrev cX8_wrapAllUnder : ByteArray := prog_10_method_28_code
def yX8_wrapAllUnder : MethodName := ⟨RX8, "wrapAllUnder", "(I)V"⟩
abbrev cX8_burns : ByteArray := prog_10_method_29_code
def yX8_burns : MethodName := ⟨RX8, "burns", "()V"⟩
abbrev cX8_isInSafe : ByteArray := prog_10_method_30_code
def yX8_isInSafe : MethodName := ⟨RX8, "isInSafe", "(II)Z"⟩
abbrev cX8_isHad : ByteArray := prog_10_method_31_code
def yX8_isHad : MethodName := ⟨RX8, "isHad", "(IIII)Z"⟩
abbrev cX8_open : ByteArray := prog_10_method_32_code
def yX8_open : MethodName := ⟨RX8, "open", "(III)V"⟩
abbrev cX8_openBoxes : ByteArray := prog_10_method_33_code
def yX8_openBoxes : MethodName := ⟨RX8, "openBoxes", "()I"⟩
abbrev cX8_openWith : ByteArray := prog_10_method_34_code
def yX8_openWith : MethodName := ⟨RX8, "openWith", "(I)I"⟩
abbrev cX8_wear : ByteArray := prog_10_method_35_code
def yX8_wear : MethodName := ⟨RX8, "wear", "(I)I"⟩
abbrev cX8_whyNoKey : ByteArray := prog_10_method_36_code
def yX8_whyNoKey : MethodName := ⟨RX8, "whyNoKey", "(I)I"⟩
abbrev cX8_makeKey : ByteArray := prog_10_method_37_code
def yX8_makeKey : MethodName := ⟨RX8, "makeKey", "(I)I"⟩
abbrev cX8_key : ByteArray := prog_10_method_38_code
def yX8_key : MethodName := ⟨RX8, "key", "(I)I"⟩
abbrev cX8_whyNoBox : ByteArray := prog_10_method_39_code
def yX8_whyNoBox : MethodName := ⟨RX8, "whyNoBox", "(I)I"⟩
abbrev cX8_makeBox : ByteArray := prog_10_method_40_code
def yX8_makeBox : MethodName := ⟨RX8, "makeBox", "(I)I"⟩
abbrev cX8_box : ByteArray := prog_10_method_41_code
def yX8_box : MethodName := ⟨RX8, "box", "(I)I"⟩
abbrev cX8_whyNoCopy : ByteArray := prog_10_method_42_code
def yX8_whyNoCopy : MethodName := ⟨RX8, "whyNoCopy", "(II)I"⟩
abbrev cX8_copied : ByteArray := prog_10_method_43_code
def yX8_copied : MethodName := ⟨RX8, "copied", "(II)I"⟩
abbrev cX8_copy : ByteArray := prog_10_method_44_code
def yX8_copy : MethodName := ⟨RX8, "copy", "(II)I"⟩
abbrev cX8_renewMakes : ByteArray := prog_10_method_45_code
def yX8_renewMakes : MethodName := ⟨RX8, "renewMakes", "(I)I"⟩
abbrev cX8_whyNotRenewed : ByteArray := prog_10_method_46_code
def yX8_whyNotRenewed : MethodName := ⟨RX8, "whyNotRenewed", "(I)I"⟩
abbrev cX8_makesAnew : ByteArray := prog_10_method_47_code
def yX8_makesAnew : MethodName := ⟨RX8, "makesAnew", "(I)V"⟩
abbrev cX8_renewed : ByteArray := prog_10_method_48_code
def yX8_renewed : MethodName := ⟨RX8, "renewed", "(I)I"⟩
abbrev cX8_renew : ByteArray := prog_10_method_49_code
def yX8_renew : MethodName := ⟨RX8, "renew", "(I)I"⟩
abbrev cX8_throwMakes : ByteArray := prog_10_method_50_code
def yX8_throwMakes : MethodName := ⟨RX8, "throwMakes", "(I)I"⟩
abbrev cX8_whyNotThrown : ByteArray := prog_10_method_51_code
def yX8_whyNotThrown : MethodName := ⟨RX8, "whyNotThrown", "(I)I"⟩
abbrev cX8_makesAboveAnew : ByteArray := prog_10_method_52_code
def yX8_makesAboveAnew : MethodName := ⟨RX8, "makesAboveAnew", "(I)V"⟩
abbrev cX8_whyKeyNotThrown : ByteArray := prog_10_method_53_code
def yX8_whyKeyNotThrown : MethodName := ⟨RX8, "whyKeyNotThrown", "(I)I"⟩
abbrev cX8_keyThrown : ByteArray := prog_10_method_54_code
def yX8_keyThrown : MethodName := ⟨RX8, "keyThrown", "(I)I"⟩
abbrev cX8_throwKey : ByteArray := prog_10_method_55_code
def yX8_throwKey : MethodName := ⟨RX8, "throwKey", "(I)I"⟩
abbrev cX8_whyBoxNotThrown : ByteArray := prog_10_method_56_code
def yX8_whyBoxNotThrown : MethodName := ⟨RX8, "whyBoxNotThrown", "(I)I"⟩
abbrev cX8_boxThrown : ByteArray := prog_10_method_57_code
def yX8_boxThrown : MethodName := ⟨RX8, "boxThrown", "(I)I"⟩
abbrev cX8_throwBox : ByteArray := prog_10_method_58_code
def yX8_throwBox : MethodName := ⟨RX8, "throwBox", "(I)I"⟩
abbrev cX8_ofKey : ByteArray := prog_10_method_59_code
def yX8_ofKey : MethodName := ⟨RX8, "ofKey", "(II)I"⟩
abbrev cX8_ofBox : ByteArray := prog_10_method_60_code
def yX8_ofBox : MethodName := ⟨RX8, "ofBox", "(II)I"⟩
abbrev cX8_wrap : ByteArray := prog_10_method_61_code
def yX8_wrap : MethodName := ⟨RX8, "wrap", "(II)I"⟩
abbrev cX8_liveKeys : ByteArray := prog_10_method_62_code
def yX8_liveKeys : MethodName := ⟨RX8, "liveKeys", "()I"⟩
abbrev cX8_liveBoxes : ByteArray := prog_10_method_63_code
def yX8_liveBoxes : MethodName := ⟨RX8, "liveBoxes", "()I"⟩
abbrev cX8_inHouse : ByteArray := prog_10_method_64_code
def yX8_inHouse : MethodName := ⟨RX8, "inHouse", "()I"⟩
abbrev cX8_outside : ByteArray := prog_10_method_65_code
def yX8_outside : MethodName := ⟨RX8, "outside", "()I"⟩
abbrev cX8_wornKeys : ByteArray := prog_10_method_66_code
def yX8_wornKeys : MethodName := ⟨RX8, "wornKeys", "()I"⟩
abbrev cX8_count : ByteArray := prog_10_method_67_code
def yX8_count : MethodName := ⟨RX8, "count", "(I)I"⟩
abbrev cX8_canOpen : ByteArray := prog_10_method_68_code
def yX8_canOpen : MethodName := ⟨RX8, "canOpen", "(II)I"⟩
abbrev cX8_canHave : ByteArray := prog_10_method_69_code
def yX8_canHave : MethodName := ⟨RX8, "canHave", "(III)I"⟩
abbrev cX8_houseWrap : ByteArray := prog_10_method_70_code
def yX8_houseWrap : MethodName := ⟨RX8, "houseWrap", "(II)I"⟩
abbrev cX8_way : ByteArray := prog_10_method_71_code
def yX8_way : MethodName := ⟨RX8, "way", "(II)I"⟩
abbrev cX8_leaks : ByteArray := prog_10_method_72_code
def yX8_leaks : MethodName := ⟨RX8, "leaks", "(III)I"⟩
abbrev cX8_lostBy : ByteArray := prog_10_method_73_code
def yX8_lostBy : MethodName := ⟨RX8, "lostBy", "(I)I"⟩
abbrev cX8_throwingMakes : ByteArray := prog_10_method_74_code
def yX8_throwingMakes : MethodName := ⟨RX8, "throwingMakes", "(II)I"⟩
abbrev cX8_leftOf : ByteArray := prog_10_method_75_code
def yX8_leftOf : MethodName := ⟨RX8, "leftOf", "(I)I"⟩
abbrev cX8_mostWorn : ByteArray := prog_10_method_76_code
def yX8_mostWorn : MethodName := ⟨RX8, "mostWorn", "(I)I"⟩
abbrev cX8_put : ByteArray := prog_10_method_77_code
def yX8_put : MethodName := ⟨RX8, "put", "(J)I"⟩
abbrev cX8_wipe : ByteArray := prog_10_method_78_code
def yX8_wipe : MethodName := ⟨RX8, "wipe", "()I"⟩
abbrev cX8_character : ByteArray := prog_10_method_79_code
def yX8_character : MethodName := ⟨RX8, "character", "(I)I"⟩
abbrev cX8_takes : ByteArray := prog_10_method_80_code
def yX8_takes : MethodName := ⟨RX8, "takes", "(I)Z"⟩
abbrev cX8_takeNumber : ByteArray := prog_10_method_81_code
def yX8_takeNumber : MethodName := ⟨RX8, "takeNumber", "()I"⟩
abbrev cX8_isOrder : ByteArray := prog_10_method_82_code
def yX8_isOrder : MethodName := ⟨RX8, "isOrder", "(I)Z"⟩
abbrev cX8_readsOrder : ByteArray := prog_10_method_83_code
def yX8_readsOrder : MethodName := ⟨RX8, "readsOrder", "()Z"⟩
abbrev cX8_findFault : ByteArray := prog_10_method_84_code
def yX8_findFault : MethodName := ⟨RX8, "findFault", "()I"⟩
abbrev cX8_fault : ByteArray := prog_10_method_85_code
def yX8_fault : MethodName := ⟨RX8, "fault", "()I"⟩
abbrev cX8_whyNotDone : ByteArray := prog_10_method_86_code
def yX8_whyNotDone : MethodName := ⟨RX8, "whyNotDone", "()I"⟩
abbrev cX8_does : ByteArray := prog_10_method_87_code
def yX8_does : MethodName := ⟨RX8, "does", "()V"⟩
abbrev cX8_carryOut : ByteArray := prog_10_method_88_code
def yX8_carryOut : MethodName := ⟨RX8, "carryOut", "()I"⟩
abbrev cX8_undo : ByteArray := prog_10_method_89_code
def yX8_undo : MethodName := ⟨RX8, "undo", "()I"⟩
abbrev cX8_save : ByteArray := prog_10_method_90_code
def yX8_save : MethodName := ⟨RX8, "save", "(I)I"⟩
abbrev cX8_restore : ByteArray := prog_10_method_91_code
def yX8_restore : MethodName := ⟨RX8, "restore", "(I)I"⟩
def RJ6 : String := "java/lang/Integer"
abbrev cJ6_bitCount_0f7a4 : ByteArray := prog_11_method_49_code
def yJ6_bitCount_0f7a4 : MethodName := ⟨RJ6, "bitCount", "(I)I"⟩
def RJ9 : String := "java/lang/Math"
abbrev cJ9_max_7cf53 : ByteArray := prog_12_method_65_code
def yJ9_max_7cf53 : MethodName := ⟨RJ9, "max", "(II)I"⟩
abbrev cJ9_min_7cf53 : ByteArray := prog_12_method_69_code
def yJ9_min_7cf53 : MethodName := ⟨RJ9, "min", "(II)I"⟩
def RJ10 : String := "java/lang/System"
def RL : String := "HangingKeysLaw"
abbrev cL_law : ByteArray := code
def yL_law : MethodName := ⟨RL, "law", "([I)Z"⟩
abbrev vwCl : List vw_C := [(RX0, TX0, 3), (RX1, TX1, 2), (RX2, TX2, 2), (RX3, TX3, 6), (RX4, TX4, 1), (RX5, TX5, 9), (RX6, TX6, 6), (RX7, TX7, 5), (RX8, TX8, 12)]
/-- the tables' words that a call hands on -/
noncomputable def GB : List Cond := lw_tbl.filter goodWord
theorem gb_in {w : Cond} (h : w ∈ lw_tbl) (hg : goodWord w = true) : w ∈ GB := List.mem_filter.mpr ⟨h, hg⟩
theorem gb_good {w : Cond} (h : w ∈ GB) : (w.onTables && w.keeps) = true ∨ ∃ ty, w = .arrayClass ty := good_of_word (List.mem_filter.mp h).2
theorem gb_tbl {w : Cond} (h : w ∈ GB) : w ∈ lw_tbl := (List.mem_filter.mp h).1
theorem in_L : Cond.initialized RL ∈ GB := gb_in (List.mem_append_right _ (List.mem_of_getElem? (i := 0) (by decide +kernel))) rfl
theorem in_X7 : Cond.initialized RX7 ∈ GB := gb_in (List.mem_append_right _ (List.mem_of_getElem? (i := 1) (by decide +kernel))) rfl
theorem in_X1 : Cond.initialized RX1 ∈ GB := gb_in (List.mem_append_right _ (List.mem_of_getElem? (i := 2) (by decide +kernel))) rfl
theorem in_X5 : Cond.initialized RX5 ∈ GB := gb_in (List.mem_append_right _ (List.mem_of_getElem? (i := 3) (by decide +kernel))) rfl
theorem in_X4 : Cond.initialized RX4 ∈ GB := gb_in (List.mem_append_right _ (List.mem_of_getElem? (i := 4) (by decide +kernel))) rfl
theorem in_J9 : Cond.initialized RJ9 ∈ GB := gb_in (List.mem_append_right _ (List.mem_of_getElem? (i := 5) (by decide +kernel))) rfl
theorem in_X6 : Cond.initialized RX6 ∈ GB := gb_in (List.mem_append_right _ (List.mem_of_getElem? (i := 6) (by decide +kernel))) rfl
theorem in_X2 : Cond.initialized RX2 ∈ GB := gb_in (List.mem_append_right _ (List.mem_of_getElem? (i := 7) (by decide +kernel))) rfl
theorem in_X3 : Cond.initialized RX3 ∈ GB := gb_in (List.mem_append_right _ (List.mem_of_getElem? (i := 8) (by decide +kernel))) rfl
theorem in_X0 : Cond.initialized RX0 ∈ GB := gb_in (List.mem_append_right _ (List.mem_of_getElem? (i := 9) (by decide +kernel))) rfl
theorem in_X8 : Cond.initialized RX8 ∈ GB := gb_in (List.mem_append_right _ (List.mem_of_getElem? (i := 10) (by decide +kernel))) rfl
theorem in_J10 : Cond.initialized RJ10 ∈ GB := gb_in (List.mem_append_right _ (List.mem_of_getElem? (i := 11) (by decide +kernel))) rfl
theorem in_J6 : Cond.initialized RJ6 ∈ GB := gb_in (List.mem_append_right _ (List.mem_of_getElem? (i := 12) (by decide +kernel))) rfl
theorem cl_L_7 : Cond.classLink RL 7 RX7 ∈ GB := gb_in (List.mem_append_right _ (List.mem_of_getElem? (i := 13) (by decide +kernel))) rfl
theorem ia_X7 : Cond.instantiable RX7 5 ∈ GB := gb_in (List.mem_append_right _ (List.mem_of_getElem? (i := 14) (by decide +kernel))) rfl
theorem ml_L_9 : Cond.methodLink RL 9 yX7_init ∈ GB := gb_in (List.mem_append_right _ (List.mem_of_getElem? (i := 15) (by decide +kernel))) rfl
theorem im_X7_init : Cond.instanceMethod yX7_init ∈ GB := gb_in (List.mem_append_right _ (List.mem_of_getElem? (i := 16) (by decide +kernel))) rfl
theorem co_X7_init : Cond.code yX7_init cX7_init 1 none ∈ GB := gb_in (List.mem_append_right _ (List.mem_of_getElem? (i := 17) (by decide +kernel))) rfl
theorem ml_X7_1 : Cond.methodLink RX7 1 ⟨"java/lang/Object", "<init>", "()V"⟩ ∈ GB := gb_in (List.mem_append_right _ (List.mem_of_getElem? (i := 18) (by decide +kernel))) rfl
theorem im_objInit : Cond.instanceMethod ⟨"java/lang/Object", "<init>", "()V"⟩ ∈ GB := gb_in (List.mem_append_right _ (List.mem_of_getElem? (i := 19) (by decide +kernel))) rfl
theorem co_objInit : Cond.code objectInit ⟨#[0xb1]⟩ 1 none ∈ GB := gb_in (List.mem_append_right _ (List.mem_of_getElem? (i := 20) (by decide +kernel))) rfl
theorem cl_X7_7 : Cond.classLink RX7 7 RX1 ∈ GB := gb_in (List.mem_append_right _ (List.mem_of_getElem? (i := 21) (by decide +kernel))) rfl
theorem ia_X1 : Cond.instantiable RX1 2 ∈ GB := gb_in (List.mem_append_right _ (List.mem_of_getElem? (i := 22) (by decide +kernel))) rfl
theorem im_X1_init : Cond.instanceMethod yX1_init ∈ GB := gb_in (List.mem_append_right _ (List.mem_of_getElem? (i := 24) (by decide +kernel))) rfl
theorem co_X1_init : Cond.code yX1_init cX1_init 1 none ∈ GB := gb_in (List.mem_append_right _ (List.mem_of_getElem? (i := 25) (by decide +kernel))) rfl
theorem ml_X1_3 : Cond.methodLink RX1 3 ⟨"java/lang/Object", "<init>", "()V"⟩ ∈ GB := gb_in (List.mem_append_right _ (List.mem_of_getElem? (i := 26) (by decide +kernel))) rfl
theorem cl_X1_9 : Cond.classLink RX1 9 RX5 ∈ GB := gb_in (List.mem_append_right _ (List.mem_of_getElem? (i := 27) (by decide +kernel))) rfl
theorem ia_X5 : Cond.instantiable RX5 9 ∈ GB := gb_in (List.mem_append_right _ (List.mem_of_getElem? (i := 28) (by decide +kernel))) rfl
theorem im_X5_init : Cond.instanceMethod yX5_init ∈ GB := gb_in (List.mem_append_right _ (List.mem_of_getElem? (i := 30) (by decide +kernel))) rfl
theorem co_X5_init : Cond.code yX5_init cX5_init 1 none ∈ GB := gb_in (List.mem_append_right _ (List.mem_of_getElem? (i := 31) (by decide +kernel))) rfl
theorem ml_X5_3 : Cond.methodLink RX5 3 ⟨"java/lang/Object", "<init>", "()V"⟩ ∈ GB := gb_in (List.mem_append_right _ (List.mem_of_getElem? (i := 32) (by decide +kernel))) rfl
theorem cl_X5_27 : Cond.classLink RX5 27 RX4 ∈ GB := gb_in (List.mem_append_right _ (List.mem_of_getElem? (i := 33) (by decide +kernel))) rfl
theorem ia_X4 : Cond.instantiable RX4 1 ∈ GB := gb_in (List.mem_append_right _ (List.mem_of_getElem? (i := 34) (by decide +kernel))) rfl
theorem ml_X5_29 : Cond.methodLink RX5 29 yX4_init ∈ GB := gb_in (List.mem_append_right _ (List.mem_of_getElem? (i := 35) (by decide +kernel))) rfl
theorem im_X4_init : Cond.instanceMethod yX4_init ∈ GB := gb_in (List.mem_append_right _ (List.mem_of_getElem? (i := 36) (by decide +kernel))) rfl
theorem co_X4_init : Cond.code yX4_init cX4_init 2 none ∈ GB := gb_in (List.mem_append_right _ (List.mem_of_getElem? (i := 37) (by decide +kernel))) rfl
theorem ml_X4_1 : Cond.methodLink RX4 1 ⟨"java/lang/Object", "<init>", "()V"⟩ ∈ GB := gb_in (List.mem_append_right _ (List.mem_of_getElem? (i := 38) (by decide +kernel))) rfl
theorem ml_X4_7 : Cond.methodLink RX4 7 yJ9_max_7cf53 ∈ GB := gb_in (List.mem_append_right _ (List.mem_of_getElem? (i := 39) (by decide +kernel))) rfl
theorem st_J9_max_7cf53 : Cond.static yJ9_max_7cf53 ∈ GB := gb_in (List.mem_append_right _ (List.mem_of_getElem? (i := 40) (by decide +kernel))) rfl
theorem co_J9_max_7cf53 : Cond.code yJ9_max_7cf53 cJ9_max_7cf53 2 (some .int) ∈ GB := gb_in (List.mem_append_right _ (List.mem_of_getElem? (i := 41) (by decide +kernel))) rfl
theorem fl_X4_13 : Cond.fieldLink RX4 13 "HangingKeys$Row" "cells" "[I" ∈ GB := gb_in (List.mem_append_right _ (List.mem_of_getElem? (i := 42) (by decide +kernel))) rfl
theorem ac_int : Cond.arrayClass .int ∈ GB := gb_in (List.mem_append_right _ (List.mem_of_getElem? (i := 46) (by decide +kernel))) rfl
theorem fl_X5_9 : Cond.fieldLink RX5 9 "HangingKeys$Tree" "mostWear" "I" ∈ GB := gb_in (List.mem_append_right _ (List.mem_of_getElem? (i := 47) (by decide +kernel))) rfl
theorem fl_X5_15 : Cond.fieldLink RX5 15 "HangingKeys$Tree" "keys" "I" ∈ GB := gb_in (List.mem_append_right _ (List.mem_of_getElem? (i := 50) (by decide +kernel))) rfl
theorem fl_X5_18 : Cond.fieldLink RX5 18 "HangingKeys$Tree" "boxes" "I" ∈ GB := gb_in (List.mem_append_right _ (List.mem_of_getElem? (i := 53) (by decide +kernel))) rfl
theorem fl_X5_21 : Cond.fieldLink RX5 21 "HangingKeys$Tree" "liveKeys" "I" ∈ GB := gb_in (List.mem_append_right _ (List.mem_of_getElem? (i := 56) (by decide +kernel))) rfl
theorem fl_X5_24 : Cond.fieldLink RX5 24 "HangingKeys$Tree" "liveBoxes" "I" ∈ GB := gb_in (List.mem_append_right _ (List.mem_of_getElem? (i := 58) (by decide +kernel))) rfl
theorem fl_X5_32 : Cond.fieldLink RX5 32 "HangingKeys$Tree" "parents" "LHangingKeys$Row;" ∈ GB := gb_in (List.mem_append_right _ (List.mem_of_getElem? (i := 60) (by decide +kernel))) rfl
theorem fl_X5_36 : Cond.fieldLink RX5 36 "HangingKeys$Tree" "makes" "LHangingKeys$Row;" ∈ GB := gb_in (List.mem_append_right _ (List.mem_of_getElem? (i := 61) (by decide +kernel))) rfl
theorem fl_X5_39 : Cond.fieldLink RX5 39 "HangingKeys$Tree" "wears" "LHangingKeys$Row;" ∈ GB := gb_in (List.mem_append_right _ (List.mem_of_getElem? (i := 62) (by decide +kernel))) rfl
theorem fl_X5_42 : Cond.fieldLink RX5 42 "HangingKeys$Tree" "keysOfBoxes" "LHangingKeys$Row;" ∈ GB := gb_in (List.mem_append_right _ (List.mem_of_getElem? (i := 63) (by decide +kernel))) rfl
theorem cl_X1_18 : Cond.classLink RX1 18 RX6 ∈ GB := gb_in (List.mem_append_right _ (List.mem_of_getElem? (i := 83) (by decide +kernel))) rfl
theorem ia_X6 : Cond.instantiable RX6 6 ∈ GB := gb_in (List.mem_append_right _ (List.mem_of_getElem? (i := 84) (by decide +kernel))) rfl
theorem im_X6_init : Cond.instanceMethod yX6_init ∈ GB := gb_in (List.mem_append_right _ (List.mem_of_getElem? (i := 86) (by decide +kernel))) rfl
theorem co_X6_init : Cond.code yX6_init cX6_init 1 none ∈ GB := gb_in (List.mem_append_right _ (List.mem_of_getElem? (i := 87) (by decide +kernel))) rfl
theorem ml_X6_3 : Cond.methodLink RX6 3 ⟨"java/lang/Object", "<init>", "()V"⟩ ∈ GB := gb_in (List.mem_append_right _ (List.mem_of_getElem? (i := 88) (by decide +kernel))) rfl
theorem cl_X6_15 : Cond.classLink RX6 15 RX4 ∈ GB := gb_in (List.mem_append_right _ (List.mem_of_getElem? (i := 89) (by decide +kernel))) rfl
theorem ml_X6_17 : Cond.methodLink RX6 17 yX4_init ∈ GB := gb_in (List.mem_append_right _ (List.mem_of_getElem? (i := 90) (by decide +kernel))) rfl
theorem fl_X6_9 : Cond.fieldLink RX6 9 "HangingKeys$Wraps" "number" "I" ∈ GB := gb_in (List.mem_append_right _ (List.mem_of_getElem? (i := 91) (by decide +kernel))) rfl
theorem fl_X6_20 : Cond.fieldLink RX6 20 "HangingKeys$Wraps" "heldKeys" "LHangingKeys$Row;" ∈ GB := gb_in (List.mem_append_right _ (List.mem_of_getElem? (i := 94) (by decide +kernel))) rfl
theorem fl_X6_24 : Cond.fieldLink RX6 24 "HangingKeys$Wraps" "heldWhats" "LHangingKeys$Row;" ∈ GB := gb_in (List.mem_append_right _ (List.mem_of_getElem? (i := 95) (by decide +kernel))) rfl
theorem fl_X6_27 : Cond.fieldLink RX6 27 "HangingKeys$Wraps" "closers" "LHangingKeys$Row;" ∈ GB := gb_in (List.mem_append_right _ (List.mem_of_getElem? (i := 96) (by decide +kernel))) rfl
theorem fl_X6_30 : Cond.fieldLink RX6 30 "HangingKeys$Wraps" "closerMakes" "LHangingKeys$Row;" ∈ GB := gb_in (List.mem_append_right _ (List.mem_of_getElem? (i := 97) (by decide +kernel))) rfl
theorem fl_X6_33 : Cond.fieldLink RX6 33 "HangingKeys$Wraps" "stands" "LHangingKeys$Row;" ∈ GB := gb_in (List.mem_append_right _ (List.mem_of_getElem? (i := 98) (by decide +kernel))) rfl
theorem fl_X1_12 : Cond.fieldLink RX1 12 "HangingKeys$House" "tree" "LHangingKeys$Tree;" ∈ GB := gb_in (List.mem_append_right _ (List.mem_of_getElem? (i := 112) (by decide +kernel))) rfl
theorem fl_X1_21 : Cond.fieldLink RX1 21 "HangingKeys$House" "wraps" "LHangingKeys$Wraps;" ∈ GB := gb_in (List.mem_append_right _ (List.mem_of_getElem? (i := 115) (by decide +kernel))) rfl
theorem cl_X7_16 : Cond.classLink RX7 16 RX2 ∈ GB := gb_in (List.mem_append_right _ (List.mem_of_getElem? (i := 123) (by decide +kernel))) rfl
theorem ia_X2 : Cond.instantiable RX2 2 ∈ GB := gb_in (List.mem_append_right _ (List.mem_of_getElem? (i := 124) (by decide +kernel))) rfl
theorem im_X2_init : Cond.instanceMethod yX2_init ∈ GB := gb_in (List.mem_append_right _ (List.mem_of_getElem? (i := 126) (by decide +kernel))) rfl
theorem co_X2_init : Cond.code yX2_init cX2_init 1 none ∈ GB := gb_in (List.mem_append_right _ (List.mem_of_getElem? (i := 127) (by decide +kernel))) rfl
theorem ml_X2_3 : Cond.methodLink RX2 3 ⟨"java/lang/Object", "<init>", "()V"⟩ ∈ GB := gb_in (List.mem_append_right _ (List.mem_of_getElem? (i := 128) (by decide +kernel))) rfl
theorem cl_X2_9 : Cond.classLink RX2 9 RX4 ∈ GB := gb_in (List.mem_append_right _ (List.mem_of_getElem? (i := 129) (by decide +kernel))) rfl
theorem ml_X2_11 : Cond.methodLink RX2 11 yX4_init ∈ GB := gb_in (List.mem_append_right _ (List.mem_of_getElem? (i := 130) (by decide +kernel))) rfl
theorem fl_X2_14 : Cond.fieldLink RX2 14 "HangingKeys$Opening" "startMakes" "LHangingKeys$Row;" ∈ GB := gb_in (List.mem_append_right _ (List.mem_of_getElem? (i := 131) (by decide +kernel))) rfl
theorem fl_X2_20 : Cond.fieldLink RX2 20 "HangingKeys$Opening" "opened" "LHangingKeys$Row;" ∈ GB := gb_in (List.mem_append_right _ (List.mem_of_getElem? (i := 132) (by decide +kernel))) rfl
theorem cl_X7_23 : Cond.classLink RX7 23 RX3 ∈ GB := gb_in (List.mem_append_right _ (List.mem_of_getElem? (i := 138) (by decide +kernel))) rfl
theorem ia_X3 : Cond.instantiable RX3 6 ∈ GB := gb_in (List.mem_append_right _ (List.mem_of_getElem? (i := 139) (by decide +kernel))) rfl
theorem im_X3_init : Cond.instanceMethod yX3_init ∈ GB := gb_in (List.mem_append_right _ (List.mem_of_getElem? (i := 141) (by decide +kernel))) rfl
theorem co_X3_init : Cond.code yX3_init cX3_init 1 none ∈ GB := gb_in (List.mem_append_right _ (List.mem_of_getElem? (i := 142) (by decide +kernel))) rfl
theorem ml_X3_3 : Cond.methodLink RX3 3 ⟨"java/lang/Object", "<init>", "()V"⟩ ∈ GB := gb_in (List.mem_append_right _ (List.mem_of_getElem? (i := 143) (by decide +kernel))) rfl
theorem cl_X3_9 : Cond.classLink RX3 9 RX4 ∈ GB := gb_in (List.mem_append_right _ (List.mem_of_getElem? (i := 144) (by decide +kernel))) rfl
theorem ml_X3_11 : Cond.methodLink RX3 11 yX4_init ∈ GB := gb_in (List.mem_append_right _ (List.mem_of_getElem? (i := 145) (by decide +kernel))) rfl
theorem fl_X3_14 : Cond.fieldLink RX3 14 "HangingKeys$Pad" "signs" "LHangingKeys$Row;" ∈ GB := gb_in (List.mem_append_right _ (List.mem_of_getElem? (i := 146) (by decide +kernel))) rfl
theorem fl_X3_20 : Cond.fieldLink RX3 20 "HangingKeys$Pad" "length" "I" ∈ GB := gb_in (List.mem_append_right _ (List.mem_of_getElem? (i := 147) (by decide +kernel))) rfl
theorem fl_X3_24 : Cond.fieldLink RX3 24 "HangingKeys$Pad" "next" "I" ∈ GB := gb_in (List.mem_append_right _ (List.mem_of_getElem? (i := 149) (by decide +kernel))) rfl
theorem fl_X3_27 : Cond.fieldLink RX3 27 "HangingKeys$Pad" "letter" "I" ∈ GB := gb_in (List.mem_append_right _ (List.mem_of_getElem? (i := 150) (by decide +kernel))) rfl
theorem fl_X3_30 : Cond.fieldLink RX3 30 "HangingKeys$Pad" "target" "I" ∈ GB := gb_in (List.mem_append_right _ (List.mem_of_getElem? (i := 152) (by decide +kernel))) rfl
theorem fl_X3_33 : Cond.fieldLink RX3 33 "HangingKeys$Pad" "place" "I" ∈ GB := gb_in (List.mem_append_right _ (List.mem_of_getElem? (i := 154) (by decide +kernel))) rfl
theorem cl_X7_30 : Cond.classLink RX7 30 RX0 ∈ GB := gb_in (List.mem_append_right _ (List.mem_of_getElem? (i := 169) (by decide +kernel))) rfl
theorem ia_X0 : Cond.instantiable RX0 3 ∈ GB := gb_in (List.mem_append_right _ (List.mem_of_getElem? (i := 170) (by decide +kernel))) rfl
theorem ml_X7_32 : Cond.methodLink RX7 32 yX0_init ∈ GB := gb_in (List.mem_append_right _ (List.mem_of_getElem? (i := 171) (by decide +kernel))) rfl
theorem im_X0_init : Cond.instanceMethod yX0_init ∈ GB := gb_in (List.mem_append_right _ (List.mem_of_getElem? (i := 172) (by decide +kernel))) rfl
theorem co_X0_init : Cond.code yX0_init cX0_init 2 none ∈ GB := gb_in (List.mem_append_right _ (List.mem_of_getElem? (i := 173) (by decide +kernel))) rfl
theorem ml_X0_3 : Cond.methodLink RX0 3 ⟨"java/lang/Object", "<init>", "()V"⟩ ∈ GB := gb_in (List.mem_append_right _ (List.mem_of_getElem? (i := 174) (by decide +kernel))) rfl
theorem cl_X0_9 : Cond.classLink RX0 9 RX1 ∈ GB := gb_in (List.mem_append_right _ (List.mem_of_getElem? (i := 175) (by decide +kernel))) rfl
theorem ao_House : Cond.arrayOver (.object "HangingKeys$House") ∈ lw_tbl := List.mem_append_right _ (List.mem_of_getElem? (i := 176) (by decide +kernel))
theorem fl_X0_11 : Cond.fieldLink RX0 11 "HangingKeys$History" "states" "[LHangingKeys$House;" ∈ GB := gb_in (List.mem_append_right _ (List.mem_of_getElem? (i := 178) (by decide +kernel))) rfl
theorem fl_X0_17 : Cond.fieldLink RX0 17 "HangingKeys$History" "spare" "I" ∈ GB := gb_in (List.mem_append_right _ (List.mem_of_getElem? (i := 179) (by decide +kernel))) rfl
theorem fl_X0_21 : Cond.fieldLink RX0 21 "HangingKeys$History" "number" "I" ∈ GB := gb_in (List.mem_append_right _ (List.mem_of_getElem? (i := 180) (by decide +kernel))) rfl
theorem fl_X7_10 : Cond.fieldLink RX7 10 "HangingKeys" "house" "LHangingKeys$House;" ∈ GB := gb_in (List.mem_append_right _ (List.mem_of_getElem? (i := 189) (by decide +kernel))) rfl
theorem fl_X7_19 : Cond.fieldLink RX7 19 "HangingKeys" "opening" "LHangingKeys$Opening;" ∈ GB := gb_in (List.mem_append_right _ (List.mem_of_getElem? (i := 190) (by decide +kernel))) rfl
theorem fl_X7_26 : Cond.fieldLink RX7 26 "HangingKeys" "pad" "LHangingKeys$Pad;" ∈ GB := gb_in (List.mem_append_right _ (List.mem_of_getElem? (i := 191) (by decide +kernel))) rfl
theorem fl_X7_33 : Cond.fieldLink RX7 33 "HangingKeys" "history" "LHangingKeys$History;" ∈ GB := gb_in (List.mem_append_right _ (List.mem_of_getElem? (i := 192) (by decide +kernel))) rfl
theorem fl_X7_37 : Cond.fieldLink RX7 37 "HangingKeys" "slots" "[LHangingKeys$House;" ∈ GB := gb_in (List.mem_append_right _ (List.mem_of_getElem? (i := 193) (by decide +kernel))) rfl
theorem ml_L_13 : Cond.methodLink RL 13 yX7_wear ∈ GB := gb_in (List.mem_append_right _ (List.mem_of_getElem? (i := 205) (by decide +kernel))) rfl
theorem im_X7_wear : Cond.instanceMethod yX7_wear ∈ GB := gb_in (List.mem_append_right _ (List.mem_of_getElem? (i := 206) (by decide +kernel))) rfl
theorem se_X7_wear : Cond.selects RX7 yX7_wear yX7_wear ∈ GB := gb_in (List.mem_append_right _ (List.mem_of_getElem? (i := 207) (by decide +kernel))) rfl
theorem co_X7_wear : Cond.code yX7_wear cX7_wear 2 (some .int) ∈ GB := gb_in (List.mem_append_right _ (List.mem_of_getElem? (i := 208) (by decide +kernel))) rfl
theorem ml_X7_41 : Cond.methodLink RX7 41 yX0_noteBefore ∈ GB := gb_in (List.mem_append_right _ (List.mem_of_getElem? (i := 209) (by decide +kernel))) rfl
theorem im_X0_noteBefore : Cond.instanceMethod yX0_noteBefore ∈ GB := gb_in (List.mem_append_right _ (List.mem_of_getElem? (i := 210) (by decide +kernel))) rfl
theorem se_X0_noteBefore : Cond.selects RX0 yX0_noteBefore yX0_noteBefore ∈ GB := gb_in (List.mem_append_right _ (List.mem_of_getElem? (i := 211) (by decide +kernel))) rfl
theorem co_X0_noteBefore : Cond.code yX0_noteBefore cX0_noteBefore 3 none ∈ GB := gb_in (List.mem_append_right _ (List.mem_of_getElem? (i := 212) (by decide +kernel))) rfl
theorem ml_X0_25 : Cond.methodLink RX0 25 yX0_stateAt ∈ GB := gb_in (List.mem_append_right _ (List.mem_of_getElem? (i := 213) (by decide +kernel))) rfl
theorem im_X0_stateAt : Cond.instanceMethod yX0_stateAt ∈ GB := gb_in (List.mem_append_right _ (List.mem_of_getElem? (i := 215) (by decide +kernel))) rfl
theorem co_X0_stateAt : Cond.code yX0_stateAt cX0_stateAt 2 (some (.object "HangingKeys$House")) ∈ GB := gb_in (List.mem_append_right _ (List.mem_of_getElem? (i := 216) (by decide +kernel))) rfl
theorem ml_X0_29 : Cond.methodLink RX0 29 yX1_become ∈ GB := gb_in (List.mem_append_right _ (List.mem_of_getElem? (i := 217) (by decide +kernel))) rfl
theorem im_X1_become : Cond.instanceMethod yX1_become ∈ GB := gb_in (List.mem_append_right _ (List.mem_of_getElem? (i := 218) (by decide +kernel))) rfl
theorem se_X1_become : Cond.selects RX1 yX1_become yX1_become ∈ GB := gb_in (List.mem_append_right _ (List.mem_of_getElem? (i := 219) (by decide +kernel))) rfl
theorem co_X1_become : Cond.code yX1_become cX1_become 2 none ∈ GB := gb_in (List.mem_append_right _ (List.mem_of_getElem? (i := 220) (by decide +kernel))) rfl
theorem ml_X1_154 : Cond.methodLink RX1 154 yX5_become ∈ GB := gb_in (List.mem_append_right _ (List.mem_of_getElem? (i := 221) (by decide +kernel))) rfl
theorem im_X5_become : Cond.instanceMethod yX5_become ∈ GB := gb_in (List.mem_append_right _ (List.mem_of_getElem? (i := 222) (by decide +kernel))) rfl
theorem se_X5_become : Cond.selects RX5 yX5_become yX5_become ∈ GB := gb_in (List.mem_append_right _ (List.mem_of_getElem? (i := 223) (by decide +kernel))) rfl
theorem co_X5_become : Cond.code yX5_become cX5_become 2 none ∈ GB := gb_in (List.mem_append_right _ (List.mem_of_getElem? (i := 224) (by decide +kernel))) rfl
theorem ml_X5_85 : Cond.methodLink RX5 85 yX4_become ∈ GB := gb_in (List.mem_append_right _ (List.mem_of_getElem? (i := 225) (by decide +kernel))) rfl
theorem im_X4_become : Cond.instanceMethod yX4_become ∈ GB := gb_in (List.mem_append_right _ (List.mem_of_getElem? (i := 226) (by decide +kernel))) rfl
theorem se_X4_become : Cond.selects RX4 yX4_become yX4_become ∈ GB := gb_in (List.mem_append_right _ (List.mem_of_getElem? (i := 227) (by decide +kernel))) rfl
theorem co_X4_become : Cond.code yX4_become cX4_become 2 none ∈ GB := gb_in (List.mem_append_right _ (List.mem_of_getElem? (i := 228) (by decide +kernel))) rfl
theorem ml_X4_19 : Cond.methodLink RX4 19 yJ9_min_7cf53 ∈ GB := gb_in (List.mem_append_right _ (List.mem_of_getElem? (i := 229) (by decide +kernel))) rfl
theorem st_J9_min_7cf53 : Cond.static yJ9_min_7cf53 ∈ GB := gb_in (List.mem_append_right _ (List.mem_of_getElem? (i := 230) (by decide +kernel))) rfl
theorem co_J9_min_7cf53 : Cond.code yJ9_min_7cf53 cJ9_min_7cf53 2 (some .int) ∈ GB := gb_in (List.mem_append_right _ (List.mem_of_getElem? (i := 231) (by decide +kernel))) rfl
theorem ml_X4_22 : Cond.methodLink RX4 22 ⟨"java/lang/System", "arraycopy", "(Ljava/lang/Object;ILjava/lang/Object;II)V"⟩ ∈ GB := gb_in (List.mem_append_right _ (List.mem_of_getElem? (i := 232) (by decide +kernel))) rfl
theorem st_arraycopy : Cond.static ⟨"java/lang/System", "arraycopy", "(Ljava/lang/Object;ILjava/lang/Object;II)V"⟩ ∈ GB := gb_in (List.mem_append_right _ (List.mem_of_getElem? (i := 233) (by decide +kernel))) rfl
theorem na_arraycopy : Cond.native ⟨"java/lang/System", "arraycopy", "(Ljava/lang/Object;ILjava/lang/Object;II)V"⟩ ∈ GB := gb_in (List.mem_append_right _ (List.mem_of_getElem? (i := 234) (by decide +kernel))) rfl
theorem ml_X1_158 : Cond.methodLink RX1 158 yX6_become ∈ GB := gb_in (List.mem_append_right _ (List.mem_of_getElem? (i := 235) (by decide +kernel))) rfl
theorem im_X6_become : Cond.instanceMethod yX6_become ∈ GB := gb_in (List.mem_append_right _ (List.mem_of_getElem? (i := 236) (by decide +kernel))) rfl
theorem se_X6_become : Cond.selects RX6 yX6_become yX6_become ∈ GB := gb_in (List.mem_append_right _ (List.mem_of_getElem? (i := 237) (by decide +kernel))) rfl
theorem co_X6_become : Cond.code yX6_become cX6_become 2 none ∈ GB := gb_in (List.mem_append_right _ (List.mem_of_getElem? (i := 238) (by decide +kernel))) rfl
theorem ml_X6_69 : Cond.methodLink RX6 69 yX4_become ∈ GB := gb_in (List.mem_append_right _ (List.mem_of_getElem? (i := 239) (by decide +kernel))) rfl
theorem ml_X7_45 : Cond.methodLink RX7 45 yX1_changeWear ∈ GB := gb_in (List.mem_append_right _ (List.mem_of_getElem? (i := 240) (by decide +kernel))) rfl
theorem im_X1_changeWear : Cond.instanceMethod yX1_changeWear ∈ GB := gb_in (List.mem_append_right _ (List.mem_of_getElem? (i := 241) (by decide +kernel))) rfl
theorem se_X1_changeWear : Cond.selects RX1 yX1_changeWear yX1_changeWear ∈ GB := gb_in (List.mem_append_right _ (List.mem_of_getElem? (i := 242) (by decide +kernel))) rfl
theorem co_X1_changeWear : Cond.code yX1_changeWear cX1_changeWear 3 (some .int) ∈ GB := gb_in (List.mem_append_right _ (List.mem_of_getElem? (i := 243) (by decide +kernel))) rfl
theorem ml_X7_49 : Cond.methodLink RX7 49 yX0_settle ∈ GB := gb_in (List.mem_append_right _ (List.mem_of_getElem? (i := 244) (by decide +kernel))) rfl
theorem im_X0_settle : Cond.instanceMethod yX0_settle ∈ GB := gb_in (List.mem_append_right _ (List.mem_of_getElem? (i := 245) (by decide +kernel))) rfl
theorem se_X0_settle : Cond.selects RX0 yX0_settle yX0_settle ∈ GB := gb_in (List.mem_append_right _ (List.mem_of_getElem? (i := 246) (by decide +kernel))) rfl
theorem co_X0_settle : Cond.code yX0_settle cX0_settle 2 (some .int) ∈ GB := gb_in (List.mem_append_right _ (List.mem_of_getElem? (i := 247) (by decide +kernel))) rfl
theorem ml_X0_33 : Cond.methodLink RX0 33 yJ9_min_7cf53 ∈ GB := gb_in (List.mem_append_right _ (List.mem_of_getElem? (i := 248) (by decide +kernel))) rfl
theorem ml_L_18 : Cond.methodLink RL 18 yX7_key ∈ GB := gb_in (List.mem_append_right _ (List.mem_of_getElem? (i := 249) (by decide +kernel))) rfl
theorem im_X7_key : Cond.instanceMethod yX7_key ∈ GB := gb_in (List.mem_append_right _ (List.mem_of_getElem? (i := 250) (by decide +kernel))) rfl
theorem se_X7_key : Cond.selects RX7 yX7_key yX7_key ∈ GB := gb_in (List.mem_append_right _ (List.mem_of_getElem? (i := 251) (by decide +kernel))) rfl
theorem co_X7_key : Cond.code yX7_key cX7_key 2 (some .int) ∈ GB := gb_in (List.mem_append_right _ (List.mem_of_getElem? (i := 252) (by decide +kernel))) rfl
theorem ml_X7_52 : Cond.methodLink RX7 52 yX1_makeKey ∈ GB := gb_in (List.mem_append_right _ (List.mem_of_getElem? (i := 253) (by decide +kernel))) rfl
theorem im_X1_makeKey : Cond.instanceMethod yX1_makeKey ∈ GB := gb_in (List.mem_append_right _ (List.mem_of_getElem? (i := 254) (by decide +kernel))) rfl
theorem se_X1_makeKey : Cond.selects RX1 yX1_makeKey yX1_makeKey ∈ GB := gb_in (List.mem_append_right _ (List.mem_of_getElem? (i := 255) (by decide +kernel))) rfl
theorem co_X1_makeKey : Cond.code yX1_makeKey cX1_makeKey 4 (some .int) ∈ GB := gb_in (List.mem_append_right _ (List.mem_of_getElem? (i := 256) (by decide +kernel))) rfl
theorem ml_X1_29 : Cond.methodLink RX1 29 yX5_isLiveKey ∈ GB := gb_in (List.mem_append_right _ (List.mem_of_getElem? (i := 257) (by decide +kernel))) rfl
theorem im_X5_isLiveKey : Cond.instanceMethod yX5_isLiveKey ∈ GB := gb_in (List.mem_append_right _ (List.mem_of_getElem? (i := 258) (by decide +kernel))) rfl
theorem se_X5_isLiveKey : Cond.selects RX5 yX5_isLiveKey yX5_isLiveKey ∈ GB := gb_in (List.mem_append_right _ (List.mem_of_getElem? (i := 259) (by decide +kernel))) rfl
theorem co_X5_isLiveKey : Cond.code yX5_isLiveKey cX5_isLiveKey 2 (some .boolean) ∈ GB := gb_in (List.mem_append_right _ (List.mem_of_getElem? (i := 260) (by decide +kernel))) rfl
theorem st_X7_has : Cond.static yX7_has ∈ GB := gb_in (List.mem_append_right _ (List.mem_of_getElem? (i := 262) (by decide +kernel))) rfl
theorem co_X7_has : Cond.code yX7_has cX7_has 2 (some .boolean) ∈ GB := gb_in (List.mem_append_right _ (List.mem_of_getElem? (i := 263) (by decide +kernel))) rfl
theorem ml_X1_36 : Cond.methodLink RX1 36 yX6_haveRoomFor ∈ GB := gb_in (List.mem_append_right _ (List.mem_of_getElem? (i := 264) (by decide +kernel))) rfl
theorem im_X6_haveRoomFor : Cond.instanceMethod yX6_haveRoomFor ∈ GB := gb_in (List.mem_append_right _ (List.mem_of_getElem? (i := 265) (by decide +kernel))) rfl
theorem se_X6_haveRoomFor : Cond.selects RX6 yX6_haveRoomFor yX6_haveRoomFor ∈ GB := gb_in (List.mem_append_right _ (List.mem_of_getElem? (i := 266) (by decide +kernel))) rfl
theorem co_X6_haveRoomFor : Cond.code yX6_haveRoomFor cX6_haveRoomFor 2 (some .boolean) ∈ GB := gb_in (List.mem_append_right _ (List.mem_of_getElem? (i := 267) (by decide +kernel))) rfl
theorem ml_X1_39 : Cond.methodLink RX1 39 yX5_leftToClose ∈ GB := gb_in (List.mem_append_right _ (List.mem_of_getElem? (i := 268) (by decide +kernel))) rfl
theorem im_X5_leftToClose : Cond.instanceMethod yX5_leftToClose ∈ GB := gb_in (List.mem_append_right _ (List.mem_of_getElem? (i := 269) (by decide +kernel))) rfl
theorem se_X5_leftToClose : Cond.selects RX5 yX5_leftToClose yX5_leftToClose ∈ GB := gb_in (List.mem_append_right _ (List.mem_of_getElem? (i := 270) (by decide +kernel))) rfl
theorem co_X5_leftToClose : Cond.code yX5_leftToClose cX5_leftToClose 2 (some .int) ∈ GB := gb_in (List.mem_append_right _ (List.mem_of_getElem? (i := 271) (by decide +kernel))) rfl
theorem ml_X5_56 : Cond.methodLink RX5 56 yX4_at ∈ GB := gb_in (List.mem_append_right _ (List.mem_of_getElem? (i := 272) (by decide +kernel))) rfl
theorem im_X4_at : Cond.instanceMethod yX4_at ∈ GB := gb_in (List.mem_append_right _ (List.mem_of_getElem? (i := 273) (by decide +kernel))) rfl
theorem se_X4_at : Cond.selects RX4 yX4_at yX4_at ∈ GB := gb_in (List.mem_append_right _ (List.mem_of_getElem? (i := 274) (by decide +kernel))) rfl
theorem co_X4_at : Cond.code yX4_at cX4_at 2 (some .int) ∈ GB := gb_in (List.mem_append_right _ (List.mem_of_getElem? (i := 275) (by decide +kernel))) rfl
theorem ml_X5_60 : Cond.methodLink RX5 60 yJ9_max_7cf53 ∈ GB := gb_in (List.mem_append_right _ (List.mem_of_getElem? (i := 276) (by decide +kernel))) rfl
theorem ml_X1_43 : Cond.methodLink RX1 43 yX5_addKey ∈ GB := gb_in (List.mem_append_right _ (List.mem_of_getElem? (i := 277) (by decide +kernel))) rfl
theorem im_X5_addKey : Cond.instanceMethod yX5_addKey ∈ GB := gb_in (List.mem_append_right _ (List.mem_of_getElem? (i := 278) (by decide +kernel))) rfl
theorem se_X5_addKey : Cond.selects RX5 yX5_addKey yX5_addKey ∈ GB := gb_in (List.mem_append_right _ (List.mem_of_getElem? (i := 279) (by decide +kernel))) rfl
theorem co_X5_addKey : Cond.code yX5_addKey cX5_addKey 2 (some .int) ∈ GB := gb_in (List.mem_append_right _ (List.mem_of_getElem? (i := 280) (by decide +kernel))) rfl
theorem ml_X5_78 : Cond.methodLink RX5 78 yX4_set ∈ GB := gb_in (List.mem_append_right _ (List.mem_of_getElem? (i := 281) (by decide +kernel))) rfl
theorem im_X4_set : Cond.instanceMethod yX4_set ∈ GB := gb_in (List.mem_append_right _ (List.mem_of_getElem? (i := 282) (by decide +kernel))) rfl
theorem se_X4_set : Cond.selects RX4 yX4_set yX4_set ∈ GB := gb_in (List.mem_append_right _ (List.mem_of_getElem? (i := 283) (by decide +kernel))) rfl
theorem co_X4_set : Cond.code yX4_set cX4_set 3 none ∈ GB := gb_in (List.mem_append_right _ (List.mem_of_getElem? (i := 284) (by decide +kernel))) rfl
theorem st_X7_setOf : Cond.static yX7_setOf ∈ GB := gb_in (List.mem_append_right _ (List.mem_of_getElem? (i := 286) (by decide +kernel))) rfl
theorem co_X7_setOf : Cond.code yX7_setOf cX7_setOf 1 (some .int) ∈ GB := gb_in (List.mem_append_right _ (List.mem_of_getElem? (i := 287) (by decide +kernel))) rfl
theorem ml_X1_46 : Cond.methodLink RX1 46 yX1_wrapKey ∈ GB := gb_in (List.mem_append_right _ (List.mem_of_getElem? (i := 288) (by decide +kernel))) rfl
theorem im_X1_wrapKey : Cond.instanceMethod yX1_wrapKey ∈ GB := gb_in (List.mem_append_right _ (List.mem_of_getElem? (i := 290) (by decide +kernel))) rfl
theorem co_X1_wrapKey : Cond.code yX1_wrapKey cX1_wrapKey 3 none ∈ GB := gb_in (List.mem_append_right _ (List.mem_of_getElem? (i := 291) (by decide +kernel))) rfl
theorem ml_X1_83 : Cond.methodLink RX1 83 yX5_parentOf ∈ GB := gb_in (List.mem_append_right _ (List.mem_of_getElem? (i := 292) (by decide +kernel))) rfl
theorem im_X5_parentOf : Cond.instanceMethod yX5_parentOf ∈ GB := gb_in (List.mem_append_right _ (List.mem_of_getElem? (i := 293) (by decide +kernel))) rfl
theorem se_X5_parentOf : Cond.selects RX5 yX5_parentOf yX5_parentOf ∈ GB := gb_in (List.mem_append_right _ (List.mem_of_getElem? (i := 294) (by decide +kernel))) rfl
theorem co_X5_parentOf : Cond.code yX5_parentOf cX5_parentOf 2 (some .int) ∈ GB := gb_in (List.mem_append_right _ (List.mem_of_getElem? (i := 295) (by decide +kernel))) rfl
theorem ml_X1_129 : Cond.methodLink RX1 129 yX5_makeOf ∈ GB := gb_in (List.mem_append_right _ (List.mem_of_getElem? (i := 296) (by decide +kernel))) rfl
theorem im_X5_makeOf : Cond.instanceMethod yX5_makeOf ∈ GB := gb_in (List.mem_append_right _ (List.mem_of_getElem? (i := 297) (by decide +kernel))) rfl
theorem se_X5_makeOf : Cond.selects RX5 yX5_makeOf yX5_makeOf ∈ GB := gb_in (List.mem_append_right _ (List.mem_of_getElem? (i := 298) (by decide +kernel))) rfl
theorem co_X5_makeOf : Cond.code yX5_makeOf cX5_makeOf 2 (some .int) ∈ GB := gb_in (List.mem_append_right _ (List.mem_of_getElem? (i := 299) (by decide +kernel))) rfl
theorem ml_X1_135 : Cond.methodLink RX1 135 yX6_add ∈ GB := gb_in (List.mem_append_right _ (List.mem_of_getElem? (i := 300) (by decide +kernel))) rfl
theorem im_X6_add : Cond.instanceMethod yX6_add ∈ GB := gb_in (List.mem_append_right _ (List.mem_of_getElem? (i := 301) (by decide +kernel))) rfl
theorem se_X6_add : Cond.selects RX6 yX6_add yX6_add ∈ GB := gb_in (List.mem_append_right _ (List.mem_of_getElem? (i := 302) (by decide +kernel))) rfl
theorem co_X6_add : Cond.code yX6_add cX6_add 5 none ∈ GB := gb_in (List.mem_append_right _ (List.mem_of_getElem? (i := 303) (by decide +kernel))) rfl
theorem ml_X6_56 : Cond.methodLink RX6 56 yX4_set ∈ GB := gb_in (List.mem_append_right _ (List.mem_of_getElem? (i := 304) (by decide +kernel))) rfl
theorem ml_X1_139 : Cond.methodLink RX1 139 yX5_wearDown ∈ GB := gb_in (List.mem_append_right _ (List.mem_of_getElem? (i := 305) (by decide +kernel))) rfl
theorem im_X5_wearDown : Cond.instanceMethod yX5_wearDown ∈ GB := gb_in (List.mem_append_right _ (List.mem_of_getElem? (i := 306) (by decide +kernel))) rfl
theorem se_X5_wearDown : Cond.selects RX5 yX5_wearDown yX5_wearDown ∈ GB := gb_in (List.mem_append_right _ (List.mem_of_getElem? (i := 307) (by decide +kernel))) rfl
theorem co_X5_wearDown : Cond.code yX5_wearDown cX5_wearDown 2 none ∈ GB := gb_in (List.mem_append_right _ (List.mem_of_getElem? (i := 308) (by decide +kernel))) rfl
theorem ml_X5_82 : Cond.methodLink RX5 82 yX4_add ∈ GB := gb_in (List.mem_append_right _ (List.mem_of_getElem? (i := 309) (by decide +kernel))) rfl
theorem im_X4_add : Cond.instanceMethod yX4_add ∈ GB := gb_in (List.mem_append_right _ (List.mem_of_getElem? (i := 310) (by decide +kernel))) rfl
theorem se_X4_add : Cond.selects RX4 yX4_add yX4_add ∈ GB := gb_in (List.mem_append_right _ (List.mem_of_getElem? (i := 311) (by decide +kernel))) rfl
theorem co_X4_add : Cond.code yX4_add cX4_add 3 none ∈ GB := gb_in (List.mem_append_right _ (List.mem_of_getElem? (i := 312) (by decide +kernel))) rfl
theorem ml_L_22 : Cond.methodLink RL 22 yX7_box ∈ GB := gb_in (List.mem_append_right _ (List.mem_of_getElem? (i := 313) (by decide +kernel))) rfl
theorem im_X7_box : Cond.instanceMethod yX7_box ∈ GB := gb_in (List.mem_append_right _ (List.mem_of_getElem? (i := 314) (by decide +kernel))) rfl
theorem se_X7_box : Cond.selects RX7 yX7_box yX7_box ∈ GB := gb_in (List.mem_append_right _ (List.mem_of_getElem? (i := 315) (by decide +kernel))) rfl
theorem co_X7_box : Cond.code yX7_box cX7_box 2 (some .int) ∈ GB := gb_in (List.mem_append_right _ (List.mem_of_getElem? (i := 316) (by decide +kernel))) rfl
theorem ml_X7_55 : Cond.methodLink RX7 55 yX1_makeBox ∈ GB := gb_in (List.mem_append_right _ (List.mem_of_getElem? (i := 317) (by decide +kernel))) rfl
theorem im_X1_makeBox : Cond.instanceMethod yX1_makeBox ∈ GB := gb_in (List.mem_append_right _ (List.mem_of_getElem? (i := 318) (by decide +kernel))) rfl
theorem se_X1_makeBox : Cond.selects RX1 yX1_makeBox yX1_makeBox ∈ GB := gb_in (List.mem_append_right _ (List.mem_of_getElem? (i := 319) (by decide +kernel))) rfl
theorem co_X1_makeBox : Cond.code yX1_makeBox cX1_makeBox 3 (some .int) ∈ GB := gb_in (List.mem_append_right _ (List.mem_of_getElem? (i := 320) (by decide +kernel))) rfl
theorem ml_X1_53 : Cond.methodLink RX1 53 yX5_addBox ∈ GB := gb_in (List.mem_append_right _ (List.mem_of_getElem? (i := 321) (by decide +kernel))) rfl
theorem im_X5_addBox : Cond.instanceMethod yX5_addBox ∈ GB := gb_in (List.mem_append_right _ (List.mem_of_getElem? (i := 322) (by decide +kernel))) rfl
theorem se_X5_addBox : Cond.selects RX5 yX5_addBox yX5_addBox ∈ GB := gb_in (List.mem_append_right _ (List.mem_of_getElem? (i := 323) (by decide +kernel))) rfl
theorem co_X5_addBox : Cond.code yX5_addBox cX5_addBox 2 (some .int) ∈ GB := gb_in (List.mem_append_right _ (List.mem_of_getElem? (i := 324) (by decide +kernel))) rfl
theorem ml_X1_56 : Cond.methodLink RX1 56 yX1_wrapBox ∈ GB := gb_in (List.mem_append_right _ (List.mem_of_getElem? (i := 325) (by decide +kernel))) rfl
theorem im_X1_wrapBox : Cond.instanceMethod yX1_wrapBox ∈ GB := gb_in (List.mem_append_right _ (List.mem_of_getElem? (i := 327) (by decide +kernel))) rfl
theorem co_X1_wrapBox : Cond.code yX1_wrapBox cX1_wrapBox 3 none ∈ GB := gb_in (List.mem_append_right _ (List.mem_of_getElem? (i := 328) (by decide +kernel))) rfl
theorem ml_X1_142 : Cond.methodLink RX1 142 yX5_keyOfBox ∈ GB := gb_in (List.mem_append_right _ (List.mem_of_getElem? (i := 329) (by decide +kernel))) rfl
theorem im_X5_keyOfBox : Cond.instanceMethod yX5_keyOfBox ∈ GB := gb_in (List.mem_append_right _ (List.mem_of_getElem? (i := 330) (by decide +kernel))) rfl
theorem se_X5_keyOfBox : Cond.selects RX5 yX5_keyOfBox yX5_keyOfBox ∈ GB := gb_in (List.mem_append_right _ (List.mem_of_getElem? (i := 331) (by decide +kernel))) rfl
theorem co_X5_keyOfBox : Cond.code yX5_keyOfBox cX5_keyOfBox 2 (some .int) ∈ GB := gb_in (List.mem_append_right _ (List.mem_of_getElem? (i := 332) (by decide +kernel))) rfl
theorem ml_L_26 : Cond.methodLink RL 26 yX7_copy ∈ GB := gb_in (List.mem_append_right _ (List.mem_of_getElem? (i := 333) (by decide +kernel))) rfl
theorem im_X7_copy : Cond.instanceMethod yX7_copy ∈ GB := gb_in (List.mem_append_right _ (List.mem_of_getElem? (i := 334) (by decide +kernel))) rfl
theorem se_X7_copy : Cond.selects RX7 yX7_copy yX7_copy ∈ GB := gb_in (List.mem_append_right _ (List.mem_of_getElem? (i := 335) (by decide +kernel))) rfl
theorem co_X7_copy : Cond.code yX7_copy cX7_copy 3 (some .int) ∈ GB := gb_in (List.mem_append_right _ (List.mem_of_getElem? (i := 336) (by decide +kernel))) rfl
theorem ml_X7_58 : Cond.methodLink RX7 58 yX1_copyOut ∈ GB := gb_in (List.mem_append_right _ (List.mem_of_getElem? (i := 337) (by decide +kernel))) rfl
theorem im_X1_copyOut : Cond.instanceMethod yX1_copyOut ∈ GB := gb_in (List.mem_append_right _ (List.mem_of_getElem? (i := 338) (by decide +kernel))) rfl
theorem se_X1_copyOut : Cond.selects RX1 yX1_copyOut yX1_copyOut ∈ GB := gb_in (List.mem_append_right _ (List.mem_of_getElem? (i := 339) (by decide +kernel))) rfl
theorem co_X1_copyOut : Cond.code yX1_copyOut cX1_copyOut 3 (some .int) ∈ GB := gb_in (List.mem_append_right _ (List.mem_of_getElem? (i := 340) (by decide +kernel))) rfl
theorem ml_X1_59 : Cond.methodLink RX1 59 yX6_isOne ∈ GB := gb_in (List.mem_append_right _ (List.mem_of_getElem? (i := 341) (by decide +kernel))) rfl
theorem im_X6_isOne : Cond.instanceMethod yX6_isOne ∈ GB := gb_in (List.mem_append_right _ (List.mem_of_getElem? (i := 342) (by decide +kernel))) rfl
theorem se_X6_isOne : Cond.selects RX6 yX6_isOne yX6_isOne ∈ GB := gb_in (List.mem_append_right _ (List.mem_of_getElem? (i := 343) (by decide +kernel))) rfl
theorem co_X6_isOne : Cond.code yX6_isOne cX6_isOne 2 (some .boolean) ∈ GB := gb_in (List.mem_append_right _ (List.mem_of_getElem? (i := 344) (by decide +kernel))) rfl
theorem ml_X1_62 : Cond.methodLink RX1 62 yX6_standsIn ∈ GB := gb_in (List.mem_append_right _ (List.mem_of_getElem? (i := 345) (by decide +kernel))) rfl
theorem im_X6_standsIn : Cond.instanceMethod yX6_standsIn ∈ GB := gb_in (List.mem_append_right _ (List.mem_of_getElem? (i := 346) (by decide +kernel))) rfl
theorem se_X6_standsIn : Cond.selects RX6 yX6_standsIn yX6_standsIn ∈ GB := gb_in (List.mem_append_right _ (List.mem_of_getElem? (i := 347) (by decide +kernel))) rfl
theorem co_X6_standsIn : Cond.code yX6_standsIn cX6_standsIn 3 (some .boolean) ∈ GB := gb_in (List.mem_append_right _ (List.mem_of_getElem? (i := 348) (by decide +kernel))) rfl
theorem ml_X6_36 : Cond.methodLink RX6 36 yX4_at ∈ GB := gb_in (List.mem_append_right _ (List.mem_of_getElem? (i := 349) (by decide +kernel))) rfl
theorem ml_X1_69 : Cond.methodLink RX1 69 yX6_standAlsoIn ∈ GB := gb_in (List.mem_append_right _ (List.mem_of_getElem? (i := 351) (by decide +kernel))) rfl
theorem im_X6_standAlsoIn : Cond.instanceMethod yX6_standAlsoIn ∈ GB := gb_in (List.mem_append_right _ (List.mem_of_getElem? (i := 352) (by decide +kernel))) rfl
theorem se_X6_standAlsoIn : Cond.selects RX6 yX6_standAlsoIn yX6_standAlsoIn ∈ GB := gb_in (List.mem_append_right _ (List.mem_of_getElem? (i := 353) (by decide +kernel))) rfl
theorem co_X6_standAlsoIn : Cond.code yX6_standAlsoIn cX6_standAlsoIn 3 none ∈ GB := gb_in (List.mem_append_right _ (List.mem_of_getElem? (i := 354) (by decide +kernel))) rfl
theorem ml_X1_73 : Cond.methodLink RX1 73 yX6_standingIn ∈ GB := gb_in (List.mem_append_right _ (List.mem_of_getElem? (i := 356) (by decide +kernel))) rfl
theorem im_X6_standingIn : Cond.instanceMethod yX6_standingIn ∈ GB := gb_in (List.mem_append_right _ (List.mem_of_getElem? (i := 357) (by decide +kernel))) rfl
theorem se_X6_standingIn : Cond.selects RX6 yX6_standingIn yX6_standingIn ∈ GB := gb_in (List.mem_append_right _ (List.mem_of_getElem? (i := 358) (by decide +kernel))) rfl
theorem co_X6_standingIn : Cond.code yX6_standingIn cX6_standingIn 4 (some .int) ∈ GB := gb_in (List.mem_append_right _ (List.mem_of_getElem? (i := 359) (by decide +kernel))) rfl
theorem ml_X6_40 : Cond.methodLink RX6 40 yJ6_bitCount_0f7a4 ∈ GB := gb_in (List.mem_append_right _ (List.mem_of_getElem? (i := 360) (by decide +kernel))) rfl
theorem st_J6_bitCount_0f7a4 : Cond.static yJ6_bitCount_0f7a4 ∈ GB := gb_in (List.mem_append_right _ (List.mem_of_getElem? (i := 361) (by decide +kernel))) rfl
theorem co_J6_bitCount_0f7a4 : Cond.code yJ6_bitCount_0f7a4 cJ6_bitCount_0f7a4 1 (some .int) ∈ GB := gb_in (List.mem_append_right _ (List.mem_of_getElem? (i := 362) (by decide +kernel))) rfl
theorem k_J6_265 : Cond.constant RJ6 265 1431655765 ∈ GB := gb_in (List.mem_append_right _ (List.mem_of_getElem? (i := 363) (by decide +kernel))) rfl
theorem k_J6_266 : Cond.constant RJ6 266 858993459 ∈ GB := gb_in (List.mem_append_right _ (List.mem_of_getElem? (i := 364) (by decide +kernel))) rfl
theorem k_J6_267 : Cond.constant RJ6 267 252645135 ∈ GB := gb_in (List.mem_append_right _ (List.mem_of_getElem? (i := 365) (by decide +kernel))) rfl
theorem ml_L_31 : Cond.methodLink RL 31 yX7_renew ∈ GB := gb_in (List.mem_append_right _ (List.mem_of_getElem? (i := 366) (by decide +kernel))) rfl
theorem im_X7_renew : Cond.instanceMethod yX7_renew ∈ GB := gb_in (List.mem_append_right _ (List.mem_of_getElem? (i := 367) (by decide +kernel))) rfl
theorem se_X7_renew : Cond.selects RX7 yX7_renew yX7_renew ∈ GB := gb_in (List.mem_append_right _ (List.mem_of_getElem? (i := 368) (by decide +kernel))) rfl
theorem co_X7_renew : Cond.code yX7_renew cX7_renew 2 (some .int) ∈ GB := gb_in (List.mem_append_right _ (List.mem_of_getElem? (i := 369) (by decide +kernel))) rfl
theorem ml_X7_62 : Cond.methodLink RX7 62 yX1_makeAnew ∈ GB := gb_in (List.mem_append_right _ (List.mem_of_getElem? (i := 370) (by decide +kernel))) rfl
theorem im_X1_makeAnew : Cond.instanceMethod yX1_makeAnew ∈ GB := gb_in (List.mem_append_right _ (List.mem_of_getElem? (i := 371) (by decide +kernel))) rfl
theorem se_X1_makeAnew : Cond.selects RX1 yX1_makeAnew yX1_makeAnew ∈ GB := gb_in (List.mem_append_right _ (List.mem_of_getElem? (i := 372) (by decide +kernel))) rfl
theorem co_X1_makeAnew : Cond.code yX1_makeAnew cX1_makeAnew 5 (some .int) ∈ GB := gb_in (List.mem_append_right _ (List.mem_of_getElem? (i := 373) (by decide +kernel))) rfl
theorem ml_X1_76 : Cond.methodLink RX1 76 yX5_isRoot ∈ GB := gb_in (List.mem_append_right _ (List.mem_of_getElem? (i := 374) (by decide +kernel))) rfl
theorem im_X5_isRoot : Cond.instanceMethod yX5_isRoot ∈ GB := gb_in (List.mem_append_right _ (List.mem_of_getElem? (i := 375) (by decide +kernel))) rfl
theorem se_X5_isRoot : Cond.selects RX5 yX5_isRoot yX5_isRoot ∈ GB := gb_in (List.mem_append_right _ (List.mem_of_getElem? (i := 376) (by decide +kernel))) rfl
theorem co_X5_isRoot : Cond.code yX5_isRoot cX5_isRoot 2 (some .boolean) ∈ GB := gb_in (List.mem_append_right _ (List.mem_of_getElem? (i := 377) (by decide +kernel))) rfl
theorem ml_X1_79 : Cond.methodLink RX1 79 yX1_hangingWithout ∈ GB := gb_in (List.mem_append_right _ (List.mem_of_getElem? (i := 378) (by decide +kernel))) rfl
theorem im_X1_hangingWithout : Cond.instanceMethod yX1_hangingWithout ∈ GB := gb_in (List.mem_append_right _ (List.mem_of_getElem? (i := 380) (by decide +kernel))) rfl
theorem co_X1_hangingWithout : Cond.code yX1_hangingWithout cX1_hangingWithout 4 (some .int) ∈ GB := gb_in (List.mem_append_right _ (List.mem_of_getElem? (i := 381) (by decide +kernel))) rfl
theorem ml_X1_118 : Cond.methodLink RX1 118 yX5_liveKeysOn ∈ GB := gb_in (List.mem_append_right _ (List.mem_of_getElem? (i := 382) (by decide +kernel))) rfl
theorem im_X5_liveKeysOn : Cond.instanceMethod yX5_liveKeysOn ∈ GB := gb_in (List.mem_append_right _ (List.mem_of_getElem? (i := 383) (by decide +kernel))) rfl
theorem se_X5_liveKeysOn : Cond.selects RX5 yX5_liveKeysOn yX5_liveKeysOn ∈ GB := gb_in (List.mem_append_right _ (List.mem_of_getElem? (i := 384) (by decide +kernel))) rfl
theorem co_X5_liveKeysOn : Cond.code yX5_liveKeysOn cX5_liveKeysOn 4 (some .int) ∈ GB := gb_in (List.mem_append_right _ (List.mem_of_getElem? (i := 385) (by decide +kernel))) rfl
theorem ml_X1_121 : Cond.methodLink RX1 121 yJ6_bitCount_0f7a4 ∈ GB := gb_in (List.mem_append_right _ (List.mem_of_getElem? (i := 386) (by decide +kernel))) rfl
theorem ml_X1_102 : Cond.methodLink RX1 102 yX5_liveBoxesOn ∈ GB := gb_in (List.mem_append_right _ (List.mem_of_getElem? (i := 387) (by decide +kernel))) rfl
theorem im_X5_liveBoxesOn : Cond.instanceMethod yX5_liveBoxesOn ∈ GB := gb_in (List.mem_append_right _ (List.mem_of_getElem? (i := 388) (by decide +kernel))) rfl
theorem se_X5_liveBoxesOn : Cond.selects RX5 yX5_liveBoxesOn yX5_liveBoxesOn ∈ GB := gb_in (List.mem_append_right _ (List.mem_of_getElem? (i := 389) (by decide +kernel))) rfl
theorem co_X5_liveBoxesOn : Cond.code yX5_liveBoxesOn cX5_liveBoxesOn 4 (some .int) ∈ GB := gb_in (List.mem_append_right _ (List.mem_of_getElem? (i := 390) (by decide +kernel))) rfl
theorem ml_X1_86 : Cond.methodLink RX1 86 yX1_startNextMakes ∈ GB := gb_in (List.mem_append_right _ (List.mem_of_getElem? (i := 391) (by decide +kernel))) rfl
theorem im_X1_startNextMakes : Cond.instanceMethod yX1_startNextMakes ∈ GB := gb_in (List.mem_append_right _ (List.mem_of_getElem? (i := 393) (by decide +kernel))) rfl
theorem co_X1_startNextMakes : Cond.code yX1_startNextMakes cX1_startNextMakes 3 none ∈ GB := gb_in (List.mem_append_right _ (List.mem_of_getElem? (i := 394) (by decide +kernel))) rfl
theorem ml_X1_126 : Cond.methodLink RX1 126 yX5_startNextMake ∈ GB := gb_in (List.mem_append_right _ (List.mem_of_getElem? (i := 396) (by decide +kernel))) rfl
theorem im_X5_startNextMake : Cond.instanceMethod yX5_startNextMake ∈ GB := gb_in (List.mem_append_right _ (List.mem_of_getElem? (i := 397) (by decide +kernel))) rfl
theorem se_X5_startNextMake : Cond.selects RX5 yX5_startNextMake yX5_startNextMake ∈ GB := gb_in (List.mem_append_right _ (List.mem_of_getElem? (i := 398) (by decide +kernel))) rfl
theorem co_X5_startNextMake : Cond.code yX5_startNextMake cX5_startNextMake 2 none ∈ GB := gb_in (List.mem_append_right _ (List.mem_of_getElem? (i := 399) (by decide +kernel))) rfl
theorem ml_X1_132 : Cond.methodLink RX1 132 yX6_burnOlderThan ∈ GB := gb_in (List.mem_append_right _ (List.mem_of_getElem? (i := 400) (by decide +kernel))) rfl
theorem im_X6_burnOlderThan : Cond.instanceMethod yX6_burnOlderThan ∈ GB := gb_in (List.mem_append_right _ (List.mem_of_getElem? (i := 401) (by decide +kernel))) rfl
theorem se_X6_burnOlderThan : Cond.selects RX6 yX6_burnOlderThan yX6_burnOlderThan ∈ GB := gb_in (List.mem_append_right _ (List.mem_of_getElem? (i := 402) (by decide +kernel))) rfl
theorem co_X6_burnOlderThan : Cond.code yX6_burnOlderThan cX6_burnOlderThan 6 none ∈ GB := gb_in (List.mem_append_right _ (List.mem_of_getElem? (i := 403) (by decide +kernel))) rfl
theorem ml_X6_66 : Cond.methodLink RX6 66 yX6_burn ∈ GB := gb_in (List.mem_append_right _ (List.mem_of_getElem? (i := 404) (by decide +kernel))) rfl
theorem im_X6_burn : Cond.instanceMethod yX6_burn ∈ GB := gb_in (List.mem_append_right _ (List.mem_of_getElem? (i := 406) (by decide +kernel))) rfl
theorem co_X6_burn : Cond.code yX6_burn cX6_burn 2 none ∈ GB := gb_in (List.mem_append_right _ (List.mem_of_getElem? (i := 407) (by decide +kernel))) rfl
theorem ml_X1_89 : Cond.methodLink RX1 89 yX1_wrapAllOn ∈ GB := gb_in (List.mem_append_right _ (List.mem_of_getElem? (i := 408) (by decide +kernel))) rfl
theorem im_X1_wrapAllOn : Cond.instanceMethod yX1_wrapAllOn ∈ GB := gb_in (List.mem_append_right _ (List.mem_of_getElem? (i := 410) (by decide +kernel))) rfl
theorem co_X1_wrapAllOn : Cond.code yX1_wrapAllOn cX1_wrapAllOn 5 none ∈ GB := gb_in (List.mem_append_right _ (List.mem_of_getElem? (i := 411) (by decide +kernel))) rfl
theorem ml_L_35 : Cond.methodLink RL 35 yX7_throwKey ∈ GB := gb_in (List.mem_append_right _ (List.mem_of_getElem? (i := 412) (by decide +kernel))) rfl
theorem im_X7_throwKey : Cond.instanceMethod yX7_throwKey ∈ GB := gb_in (List.mem_append_right _ (List.mem_of_getElem? (i := 413) (by decide +kernel))) rfl
theorem se_X7_throwKey : Cond.selects RX7 yX7_throwKey yX7_throwKey ∈ GB := gb_in (List.mem_append_right _ (List.mem_of_getElem? (i := 414) (by decide +kernel))) rfl
theorem co_X7_throwKey : Cond.code yX7_throwKey cX7_throwKey 2 (some .int) ∈ GB := gb_in (List.mem_append_right _ (List.mem_of_getElem? (i := 415) (by decide +kernel))) rfl
theorem ml_X7_65 : Cond.methodLink RX7 65 yX1_throwAway ∈ GB := gb_in (List.mem_append_right _ (List.mem_of_getElem? (i := 416) (by decide +kernel))) rfl
theorem im_X1_throwAway : Cond.instanceMethod yX1_throwAway ∈ GB := gb_in (List.mem_append_right _ (List.mem_of_getElem? (i := 417) (by decide +kernel))) rfl
theorem se_X1_throwAway : Cond.selects RX1 yX1_throwAway yX1_throwAway ∈ GB := gb_in (List.mem_append_right _ (List.mem_of_getElem? (i := 418) (by decide +kernel))) rfl
theorem co_X1_throwAway : Cond.code yX1_throwAway cX1_throwAway 8 (some .int) ∈ GB := gb_in (List.mem_append_right _ (List.mem_of_getElem? (i := 419) (by decide +kernel))) rfl
theorem ml_X1_92 : Cond.methodLink RX1 92 yX5_isLive ∈ GB := gb_in (List.mem_append_right _ (List.mem_of_getElem? (i := 420) (by decide +kernel))) rfl
theorem im_X5_isLive : Cond.instanceMethod yX5_isLive ∈ GB := gb_in (List.mem_append_right _ (List.mem_of_getElem? (i := 421) (by decide +kernel))) rfl
theorem se_X5_isLive : Cond.selects RX5 yX5_isLive yX5_isLive ∈ GB := gb_in (List.mem_append_right _ (List.mem_of_getElem? (i := 422) (by decide +kernel))) rfl
theorem co_X5_isLive : Cond.code yX5_isLive cX5_isLive 3 (some .boolean) ∈ GB := gb_in (List.mem_append_right _ (List.mem_of_getElem? (i := 423) (by decide +kernel))) rfl
theorem ml_X5_49 : Cond.methodLink RX5 49 yX5_isLiveKey ∈ GB := gb_in (List.mem_append_right _ (List.mem_of_getElem? (i := 424) (by decide +kernel))) rfl
theorem ml_X5_53 : Cond.methodLink RX5 53 yX5_isLiveBox ∈ GB := gb_in (List.mem_append_right _ (List.mem_of_getElem? (i := 425) (by decide +kernel))) rfl
theorem im_X5_isLiveBox : Cond.instanceMethod yX5_isLiveBox ∈ GB := gb_in (List.mem_append_right _ (List.mem_of_getElem? (i := 426) (by decide +kernel))) rfl
theorem se_X5_isLiveBox : Cond.selects RX5 yX5_isLiveBox yX5_isLiveBox ∈ GB := gb_in (List.mem_append_right _ (List.mem_of_getElem? (i := 427) (by decide +kernel))) rfl
theorem co_X5_isLiveBox : Cond.code yX5_isLiveBox cX5_isLiveBox 2 (some .boolean) ∈ GB := gb_in (List.mem_append_right _ (List.mem_of_getElem? (i := 428) (by decide +kernel))) rfl
theorem ml_X1_95 : Cond.methodLink RX1 95 yX5_aboveThat ∈ GB := gb_in (List.mem_append_right _ (List.mem_of_getElem? (i := 429) (by decide +kernel))) rfl
theorem im_X5_aboveThat : Cond.instanceMethod yX5_aboveThat ∈ GB := gb_in (List.mem_append_right _ (List.mem_of_getElem? (i := 430) (by decide +kernel))) rfl
theorem se_X5_aboveThat : Cond.selects RX5 yX5_aboveThat yX5_aboveThat ∈ GB := gb_in (List.mem_append_right _ (List.mem_of_getElem? (i := 431) (by decide +kernel))) rfl
theorem co_X5_aboveThat : Cond.code yX5_aboveThat cX5_aboveThat 3 (some .int) ∈ GB := gb_in (List.mem_append_right _ (List.mem_of_getElem? (i := 432) (by decide +kernel))) rfl
theorem ml_X5_69 : Cond.methodLink RX5 69 yX5_above ∈ GB := gb_in (List.mem_append_right _ (List.mem_of_getElem? (i := 433) (by decide +kernel))) rfl
theorem im_X5_above : Cond.instanceMethod yX5_above ∈ GB := gb_in (List.mem_append_right _ (List.mem_of_getElem? (i := 434) (by decide +kernel))) rfl
theorem se_X5_above : Cond.selects RX5 yX5_above yX5_above ∈ GB := gb_in (List.mem_append_right _ (List.mem_of_getElem? (i := 435) (by decide +kernel))) rfl
theorem co_X5_above : Cond.code yX5_above cX5_above 5 (some .int) ∈ GB := gb_in (List.mem_append_right _ (List.mem_of_getElem? (i := 436) (by decide +kernel))) rfl
theorem ml_X5_72 : Cond.methodLink RX5 72 yX5_aboveBox ∈ GB := gb_in (List.mem_append_right _ (List.mem_of_getElem? (i := 437) (by decide +kernel))) rfl
theorem im_X5_aboveBox : Cond.instanceMethod yX5_aboveBox ∈ GB := gb_in (List.mem_append_right _ (List.mem_of_getElem? (i := 438) (by decide +kernel))) rfl
theorem se_X5_aboveBox : Cond.selects RX5 yX5_aboveBox yX5_aboveBox ∈ GB := gb_in (List.mem_append_right _ (List.mem_of_getElem? (i := 439) (by decide +kernel))) rfl
theorem co_X5_aboveBox : Cond.code yX5_aboveBox cX5_aboveBox 3 (some .int) ∈ GB := gb_in (List.mem_append_right _ (List.mem_of_getElem? (i := 440) (by decide +kernel))) rfl
theorem ml_X1_99 : Cond.methodLink RX1 99 yX5_withAllBelow ∈ GB := gb_in (List.mem_append_right _ (List.mem_of_getElem? (i := 441) (by decide +kernel))) rfl
theorem im_X5_withAllBelow : Cond.instanceMethod yX5_withAllBelow ∈ GB := gb_in (List.mem_append_right _ (List.mem_of_getElem? (i := 442) (by decide +kernel))) rfl
theorem se_X5_withAllBelow : Cond.selects RX5 yX5_withAllBelow yX5_withAllBelow ∈ GB := gb_in (List.mem_append_right _ (List.mem_of_getElem? (i := 443) (by decide +kernel))) rfl
theorem co_X5_withAllBelow : Cond.code yX5_withAllBelow cX5_withAllBelow 4 (some .int) ∈ GB := gb_in (List.mem_append_right _ (List.mem_of_getElem? (i := 444) (by decide +kernel))) rfl
theorem ml_X1_105 : Cond.methodLink RX1 105 yX1_canWrapAgain ∈ GB := gb_in (List.mem_append_right _ (List.mem_of_getElem? (i := 445) (by decide +kernel))) rfl
theorem im_X1_canWrapAgain : Cond.instanceMethod yX1_canWrapAgain ∈ GB := gb_in (List.mem_append_right _ (List.mem_of_getElem? (i := 447) (by decide +kernel))) rfl
theorem co_X1_canWrapAgain : Cond.code yX1_canWrapAgain cX1_canWrapAgain 5 (some .boolean) ∈ GB := gb_in (List.mem_append_right _ (List.mem_of_getElem? (i := 448) (by decide +kernel))) rfl
theorem ml_X1_109 : Cond.methodLink RX1 109 yX5_endLife ∈ GB := gb_in (List.mem_append_right _ (List.mem_of_getElem? (i := 449) (by decide +kernel))) rfl
theorem im_X5_endLife : Cond.instanceMethod yX5_endLife ∈ GB := gb_in (List.mem_append_right _ (List.mem_of_getElem? (i := 450) (by decide +kernel))) rfl
theorem se_X5_endLife : Cond.selects RX5 yX5_endLife yX5_endLife ∈ GB := gb_in (List.mem_append_right _ (List.mem_of_getElem? (i := 451) (by decide +kernel))) rfl
theorem co_X5_endLife : Cond.code yX5_endLife cX5_endLife 3 none ∈ GB := gb_in (List.mem_append_right _ (List.mem_of_getElem? (i := 452) (by decide +kernel))) rfl
theorem ml_X1_112 : Cond.methodLink RX1 112 yX6_burnHolding ∈ GB := gb_in (List.mem_append_right _ (List.mem_of_getElem? (i := 453) (by decide +kernel))) rfl
theorem im_X6_burnHolding : Cond.instanceMethod yX6_burnHolding ∈ GB := gb_in (List.mem_append_right _ (List.mem_of_getElem? (i := 454) (by decide +kernel))) rfl
theorem se_X6_burnHolding : Cond.selects RX6 yX6_burnHolding yX6_burnHolding ∈ GB := gb_in (List.mem_append_right _ (List.mem_of_getElem? (i := 455) (by decide +kernel))) rfl
theorem co_X6_burnHolding : Cond.code yX6_burnHolding cX6_burnHolding 5 none ∈ GB := gb_in (List.mem_append_right _ (List.mem_of_getElem? (i := 456) (by decide +kernel))) rfl
theorem ml_L_39 : Cond.methodLink RL 39 yX7_throwBox ∈ GB := gb_in (List.mem_append_right _ (List.mem_of_getElem? (i := 458) (by decide +kernel))) rfl
theorem im_X7_throwBox : Cond.instanceMethod yX7_throwBox ∈ GB := gb_in (List.mem_append_right _ (List.mem_of_getElem? (i := 459) (by decide +kernel))) rfl
theorem se_X7_throwBox : Cond.selects RX7 yX7_throwBox yX7_throwBox ∈ GB := gb_in (List.mem_append_right _ (List.mem_of_getElem? (i := 460) (by decide +kernel))) rfl
theorem co_X7_throwBox : Cond.code yX7_throwBox cX7_throwBox 2 (some .int) ∈ GB := gb_in (List.mem_append_right _ (List.mem_of_getElem? (i := 461) (by decide +kernel))) rfl
theorem ml_L_43 : Cond.methodLink RL 43 yX7_ofKey ∈ GB := gb_in (List.mem_append_right _ (List.mem_of_getElem? (i := 462) (by decide +kernel))) rfl
theorem im_X7_ofKey : Cond.instanceMethod yX7_ofKey ∈ GB := gb_in (List.mem_append_right _ (List.mem_of_getElem? (i := 463) (by decide +kernel))) rfl
theorem se_X7_ofKey : Cond.selects RX7 yX7_ofKey yX7_ofKey ∈ GB := gb_in (List.mem_append_right _ (List.mem_of_getElem? (i := 464) (by decide +kernel))) rfl
theorem co_X7_ofKey : Cond.code yX7_ofKey cX7_ofKey 4 (some .int) ∈ GB := gb_in (List.mem_append_right _ (List.mem_of_getElem? (i := 465) (by decide +kernel))) rfl
theorem ml_X7_72 : Cond.methodLink RX7 72 yX5_hasKey ∈ GB := gb_in (List.mem_append_right _ (List.mem_of_getElem? (i := 466) (by decide +kernel))) rfl
theorem im_X5_hasKey : Cond.instanceMethod yX5_hasKey ∈ GB := gb_in (List.mem_append_right _ (List.mem_of_getElem? (i := 467) (by decide +kernel))) rfl
theorem se_X5_hasKey : Cond.selects RX5 yX5_hasKey yX5_hasKey ∈ GB := gb_in (List.mem_append_right _ (List.mem_of_getElem? (i := 468) (by decide +kernel))) rfl
theorem co_X5_hasKey : Cond.code yX5_hasKey cX5_hasKey 2 (some .boolean) ∈ GB := gb_in (List.mem_append_right _ (List.mem_of_getElem? (i := 469) (by decide +kernel))) rfl
theorem ml_X7_78 : Cond.methodLink RX7 78 yX5_parentOf ∈ GB := gb_in (List.mem_append_right _ (List.mem_of_getElem? (i := 470) (by decide +kernel))) rfl
theorem ml_X7_81 : Cond.methodLink RX7 81 yX5_isLiveKey ∈ GB := gb_in (List.mem_append_right _ (List.mem_of_getElem? (i := 471) (by decide +kernel))) rfl
theorem ml_X7_84 : Cond.methodLink RX7 84 yX7_oneIf ∈ GB := gb_in (List.mem_append_right _ (List.mem_of_getElem? (i := 472) (by decide +kernel))) rfl
theorem st_X7_oneIf : Cond.static yX7_oneIf ∈ GB := gb_in (List.mem_append_right _ (List.mem_of_getElem? (i := 473) (by decide +kernel))) rfl
theorem co_X7_oneIf : Cond.code yX7_oneIf cX7_oneIf 1 (some .int) ∈ GB := gb_in (List.mem_append_right _ (List.mem_of_getElem? (i := 474) (by decide +kernel))) rfl
theorem ml_X7_88 : Cond.methodLink RX7 88 yX5_makeOf ∈ GB := gb_in (List.mem_append_right _ (List.mem_of_getElem? (i := 475) (by decide +kernel))) rfl
theorem ml_X7_91 : Cond.methodLink RX7 91 yX5_wearOf ∈ GB := gb_in (List.mem_append_right _ (List.mem_of_getElem? (i := 476) (by decide +kernel))) rfl
theorem im_X5_wearOf : Cond.instanceMethod yX5_wearOf ∈ GB := gb_in (List.mem_append_right _ (List.mem_of_getElem? (i := 477) (by decide +kernel))) rfl
theorem se_X5_wearOf : Cond.selects RX5 yX5_wearOf yX5_wearOf ∈ GB := gb_in (List.mem_append_right _ (List.mem_of_getElem? (i := 478) (by decide +kernel))) rfl
theorem co_X5_wearOf : Cond.code yX5_wearOf cX5_wearOf 2 (some .int) ∈ GB := gb_in (List.mem_append_right _ (List.mem_of_getElem? (i := 479) (by decide +kernel))) rfl
theorem ml_X7_94 : Cond.methodLink RX7 94 yX7_setOf ∈ GB := gb_in (List.mem_append_right _ (List.mem_of_getElem? (i := 480) (by decide +kernel))) rfl
theorem ml_X7_97 : Cond.methodLink RX7 97 yX5_liveKeysOn ∈ GB := gb_in (List.mem_append_right _ (List.mem_of_getElem? (i := 481) (by decide +kernel))) rfl
theorem ml_X7_100 : Cond.methodLink RX7 100 yX5_liveBoxesOn ∈ GB := gb_in (List.mem_append_right _ (List.mem_of_getElem? (i := 482) (by decide +kernel))) rfl
theorem ml_X7_103 : Cond.methodLink RX7 103 yX5_above ∈ GB := gb_in (List.mem_append_right _ (List.mem_of_getElem? (i := 483) (by decide +kernel))) rfl
theorem ml_X7_106 : Cond.methodLink RX7 106 yJ6_bitCount_0f7a4 ∈ GB := gb_in (List.mem_append_right _ (List.mem_of_getElem? (i := 484) (by decide +kernel))) rfl
theorem ml_L_47 : Cond.methodLink RL 47 yX7_ofBox ∈ GB := gb_in (List.mem_append_right _ (List.mem_of_getElem? (i := 485) (by decide +kernel))) rfl
theorem im_X7_ofBox : Cond.instanceMethod yX7_ofBox ∈ GB := gb_in (List.mem_append_right _ (List.mem_of_getElem? (i := 486) (by decide +kernel))) rfl
theorem se_X7_ofBox : Cond.selects RX7 yX7_ofBox yX7_ofBox ∈ GB := gb_in (List.mem_append_right _ (List.mem_of_getElem? (i := 487) (by decide +kernel))) rfl
theorem co_X7_ofBox : Cond.code yX7_ofBox cX7_ofBox 4 (some .int) ∈ GB := gb_in (List.mem_append_right _ (List.mem_of_getElem? (i := 488) (by decide +kernel))) rfl
theorem ml_X7_111 : Cond.methodLink RX7 111 yX5_hasBox ∈ GB := gb_in (List.mem_append_right _ (List.mem_of_getElem? (i := 489) (by decide +kernel))) rfl
theorem im_X5_hasBox : Cond.instanceMethod yX5_hasBox ∈ GB := gb_in (List.mem_append_right _ (List.mem_of_getElem? (i := 490) (by decide +kernel))) rfl
theorem se_X5_hasBox : Cond.selects RX5 yX5_hasBox yX5_hasBox ∈ GB := gb_in (List.mem_append_right _ (List.mem_of_getElem? (i := 491) (by decide +kernel))) rfl
theorem co_X5_hasBox : Cond.code yX5_hasBox cX5_hasBox 2 (some .boolean) ∈ GB := gb_in (List.mem_append_right _ (List.mem_of_getElem? (i := 492) (by decide +kernel))) rfl
theorem ml_X7_114 : Cond.methodLink RX7 114 yX5_keyOfBox ∈ GB := gb_in (List.mem_append_right _ (List.mem_of_getElem? (i := 493) (by decide +kernel))) rfl
theorem ml_X7_117 : Cond.methodLink RX7 117 yX5_isLiveBox ∈ GB := gb_in (List.mem_append_right _ (List.mem_of_getElem? (i := 494) (by decide +kernel))) rfl
theorem ml_X7_120 : Cond.methodLink RX7 120 yX2_boxesWith ∈ GB := gb_in (List.mem_append_right _ (List.mem_of_getElem? (i := 495) (by decide +kernel))) rfl
theorem im_X2_boxesWith : Cond.instanceMethod yX2_boxesWith ∈ GB := gb_in (List.mem_append_right _ (List.mem_of_getElem? (i := 496) (by decide +kernel))) rfl
theorem se_X2_boxesWith : Cond.selects RX2 yX2_boxesWith yX2_boxesWith ∈ GB := gb_in (List.mem_append_right _ (List.mem_of_getElem? (i := 497) (by decide +kernel))) rfl
theorem co_X2_boxesWith : Cond.code yX2_boxesWith cX2_boxesWith 3 (some .int) ∈ GB := gb_in (List.mem_append_right _ (List.mem_of_getElem? (i := 498) (by decide +kernel))) rfl
theorem ml_X2_29 : Cond.methodLink RX2 29 yX2_startFromSafe ∈ GB := gb_in (List.mem_append_right _ (List.mem_of_getElem? (i := 499) (by decide +kernel))) rfl
theorem im_X2_startFromSafe : Cond.instanceMethod yX2_startFromSafe ∈ GB := gb_in (List.mem_append_right _ (List.mem_of_getElem? (i := 501) (by decide +kernel))) rfl
theorem co_X2_startFromSafe : Cond.code yX2_startFromSafe cX2_startFromSafe 3 none ∈ GB := gb_in (List.mem_append_right _ (List.mem_of_getElem? (i := 502) (by decide +kernel))) rfl
theorem ml_X2_49 : Cond.methodLink RX2 49 yX4_fill ∈ GB := gb_in (List.mem_append_right _ (List.mem_of_getElem? (i := 503) (by decide +kernel))) rfl
theorem im_X4_fill : Cond.instanceMethod yX4_fill ∈ GB := gb_in (List.mem_append_right _ (List.mem_of_getElem? (i := 504) (by decide +kernel))) rfl
theorem se_X4_fill : Cond.selects RX4 yX4_fill yX4_fill ∈ GB := gb_in (List.mem_append_right _ (List.mem_of_getElem? (i := 505) (by decide +kernel))) rfl
theorem co_X4_fill : Cond.code yX4_fill cX4_fill 3 none ∈ GB := gb_in (List.mem_append_right _ (List.mem_of_getElem? (i := 506) (by decide +kernel))) rfl
theorem ml_X2_56 : Cond.methodLink RX2 56 yX5_isLiveKey ∈ GB := gb_in (List.mem_append_right _ (List.mem_of_getElem? (i := 507) (by decide +kernel))) rfl
theorem ml_X2_62 : Cond.methodLink RX2 62 yX5_isRoot ∈ GB := gb_in (List.mem_append_right _ (List.mem_of_getElem? (i := 508) (by decide +kernel))) rfl
theorem ml_X2_65 : Cond.methodLink RX2 65 yX5_makeOf ∈ GB := gb_in (List.mem_append_right _ (List.mem_of_getElem? (i := 509) (by decide +kernel))) rfl
theorem ml_X2_52 : Cond.methodLink RX2 52 yX4_set ∈ GB := gb_in (List.mem_append_right _ (List.mem_of_getElem? (i := 510) (by decide +kernel))) rfl
theorem ml_X2_37 : Cond.methodLink RX2 37 yX2_openAll ∈ GB := gb_in (List.mem_append_right _ (List.mem_of_getElem? (i := 511) (by decide +kernel))) rfl
theorem im_X2_openAll : Cond.instanceMethod yX2_openAll ∈ GB := gb_in (List.mem_append_right _ (List.mem_of_getElem? (i := 513) (by decide +kernel))) rfl
theorem co_X2_openAll : Cond.code yX2_openAll cX2_openAll 4 none ∈ GB := gb_in (List.mem_append_right _ (List.mem_of_getElem? (i := 514) (by decide +kernel))) rfl
theorem ml_X2_69 : Cond.methodLink RX2 69 yX2_openHolding ∈ GB := gb_in (List.mem_append_right _ (List.mem_of_getElem? (i := 515) (by decide +kernel))) rfl
theorem im_X2_openHolding : Cond.instanceMethod yX2_openHolding ∈ GB := gb_in (List.mem_append_right _ (List.mem_of_getElem? (i := 517) (by decide +kernel))) rfl
theorem co_X2_openHolding : Cond.code yX2_openHolding cX2_openHolding 5 none ∈ GB := gb_in (List.mem_append_right _ (List.mem_of_getElem? (i := 518) (by decide +kernel))) rfl
theorem ml_X2_79 : Cond.methodLink RX2 79 yX6_heldKey ∈ GB := gb_in (List.mem_append_right _ (List.mem_of_getElem? (i := 519) (by decide +kernel))) rfl
theorem im_X6_heldKey : Cond.instanceMethod yX6_heldKey ∈ GB := gb_in (List.mem_append_right _ (List.mem_of_getElem? (i := 520) (by decide +kernel))) rfl
theorem se_X6_heldKey : Cond.selects RX6 yX6_heldKey yX6_heldKey ∈ GB := gb_in (List.mem_append_right _ (List.mem_of_getElem? (i := 521) (by decide +kernel))) rfl
theorem co_X6_heldKey : Cond.code yX6_heldKey cX6_heldKey 2 (some .int) ∈ GB := gb_in (List.mem_append_right _ (List.mem_of_getElem? (i := 522) (by decide +kernel))) rfl
theorem ml_X2_82 : Cond.methodLink RX2 82 yX6_standsIn ∈ GB := gb_in (List.mem_append_right _ (List.mem_of_getElem? (i := 523) (by decide +kernel))) rfl
theorem ml_X2_86 : Cond.methodLink RX2 86 yX6_closer ∈ GB := gb_in (List.mem_append_right _ (List.mem_of_getElem? (i := 524) (by decide +kernel))) rfl
theorem im_X6_closer : Cond.instanceMethod yX6_closer ∈ GB := gb_in (List.mem_append_right _ (List.mem_of_getElem? (i := 525) (by decide +kernel))) rfl
theorem se_X6_closer : Cond.selects RX6 yX6_closer yX6_closer ∈ GB := gb_in (List.mem_append_right _ (List.mem_of_getElem? (i := 526) (by decide +kernel))) rfl
theorem co_X6_closer : Cond.code yX6_closer cX6_closer 2 (some .int) ∈ GB := gb_in (List.mem_append_right _ (List.mem_of_getElem? (i := 527) (by decide +kernel))) rfl
theorem ml_X2_89 : Cond.methodLink RX2 89 yX6_closerMake ∈ GB := gb_in (List.mem_append_right _ (List.mem_of_getElem? (i := 528) (by decide +kernel))) rfl
theorem im_X6_closerMake : Cond.instanceMethod yX6_closerMake ∈ GB := gb_in (List.mem_append_right _ (List.mem_of_getElem? (i := 529) (by decide +kernel))) rfl
theorem se_X6_closerMake : Cond.selects RX6 yX6_closerMake yX6_closerMake ∈ GB := gb_in (List.mem_append_right _ (List.mem_of_getElem? (i := 530) (by decide +kernel))) rfl
theorem co_X6_closerMake : Cond.code yX6_closerMake cX6_closerMake 2 (some .int) ∈ GB := gb_in (List.mem_append_right _ (List.mem_of_getElem? (i := 531) (by decide +kernel))) rfl
theorem ml_X2_45 : Cond.methodLink RX2 45 yX2_isHad ∈ GB := gb_in (List.mem_append_right _ (List.mem_of_getElem? (i := 532) (by decide +kernel))) rfl
theorem im_X2_isHad : Cond.instanceMethod yX2_isHad ∈ GB := gb_in (List.mem_append_right _ (List.mem_of_getElem? (i := 534) (by decide +kernel))) rfl
theorem co_X2_isHad : Cond.code yX2_isHad cX2_isHad 5 (some .boolean) ∈ GB := gb_in (List.mem_append_right _ (List.mem_of_getElem? (i := 535) (by decide +kernel))) rfl
theorem ml_X2_92 : Cond.methodLink RX2 92 yX4_at ∈ GB := gb_in (List.mem_append_right _ (List.mem_of_getElem? (i := 536) (by decide +kernel))) rfl
theorem ml_X2_95 : Cond.methodLink RX2 95 yX6_holdsMake ∈ GB := gb_in (List.mem_append_right _ (List.mem_of_getElem? (i := 537) (by decide +kernel))) rfl
theorem im_X6_holdsMake : Cond.instanceMethod yX6_holdsMake ∈ GB := gb_in (List.mem_append_right _ (List.mem_of_getElem? (i := 538) (by decide +kernel))) rfl
theorem se_X6_holdsMake : Cond.selects RX6 yX6_holdsMake yX6_holdsMake ∈ GB := gb_in (List.mem_append_right _ (List.mem_of_getElem? (i := 539) (by decide +kernel))) rfl
theorem co_X6_holdsMake : Cond.code yX6_holdsMake cX6_holdsMake 4 (some .boolean) ∈ GB := gb_in (List.mem_append_right _ (List.mem_of_getElem? (i := 540) (by decide +kernel))) rfl
theorem ml_X2_41 : Cond.methodLink RX2 41 yX2_openedBoxes ∈ GB := gb_in (List.mem_append_right _ (List.mem_of_getElem? (i := 541) (by decide +kernel))) rfl
theorem im_X2_openedBoxes : Cond.instanceMethod yX2_openedBoxes ∈ GB := gb_in (List.mem_append_right _ (List.mem_of_getElem? (i := 543) (by decide +kernel))) rfl
theorem co_X2_openedBoxes : Cond.code yX2_openedBoxes cX2_openedBoxes 4 (some .int) ∈ GB := gb_in (List.mem_append_right _ (List.mem_of_getElem? (i := 544) (by decide +kernel))) rfl
theorem ml_X2_99 : Cond.methodLink RX2 99 yX6_heldWhat ∈ GB := gb_in (List.mem_append_right _ (List.mem_of_getElem? (i := 545) (by decide +kernel))) rfl
theorem im_X6_heldWhat : Cond.instanceMethod yX6_heldWhat ∈ GB := gb_in (List.mem_append_right _ (List.mem_of_getElem? (i := 546) (by decide +kernel))) rfl
theorem se_X6_heldWhat : Cond.selects RX6 yX6_heldWhat yX6_heldWhat ∈ GB := gb_in (List.mem_append_right _ (List.mem_of_getElem? (i := 547) (by decide +kernel))) rfl
theorem co_X6_heldWhat : Cond.code yX6_heldWhat cX6_heldWhat 2 (some .int) ∈ GB := gb_in (List.mem_append_right _ (List.mem_of_getElem? (i := 548) (by decide +kernel))) rfl
theorem ml_X7_124 : Cond.methodLink RX7 124 yX7_has ∈ GB := gb_in (List.mem_append_right _ (List.mem_of_getElem? (i := 550) (by decide +kernel))) rfl
theorem ml_L_51 : Cond.methodLink RL 51 yX7_wrap ∈ GB := gb_in (List.mem_append_right _ (List.mem_of_getElem? (i := 551) (by decide +kernel))) rfl
theorem im_X7_wrap : Cond.instanceMethod yX7_wrap ∈ GB := gb_in (List.mem_append_right _ (List.mem_of_getElem? (i := 552) (by decide +kernel))) rfl
theorem se_X7_wrap : Cond.selects RX7 yX7_wrap yX7_wrap ∈ GB := gb_in (List.mem_append_right _ (List.mem_of_getElem? (i := 553) (by decide +kernel))) rfl
theorem co_X7_wrap : Cond.code yX7_wrap cX7_wrap 4 (some .int) ∈ GB := gb_in (List.mem_append_right _ (List.mem_of_getElem? (i := 554) (by decide +kernel))) rfl
theorem ml_X7_132 : Cond.methodLink RX7 132 yX6_isOne ∈ GB := gb_in (List.mem_append_right _ (List.mem_of_getElem? (i := 555) (by decide +kernel))) rfl
theorem ml_X7_137 : Cond.methodLink RX7 137 yX6_heldKey ∈ GB := gb_in (List.mem_append_right _ (List.mem_of_getElem? (i := 556) (by decide +kernel))) rfl
theorem ml_X7_140 : Cond.methodLink RX7 140 yX6_heldWhat ∈ GB := gb_in (List.mem_append_right _ (List.mem_of_getElem? (i := 557) (by decide +kernel))) rfl
theorem ml_X7_143 : Cond.methodLink RX7 143 yX6_closer ∈ GB := gb_in (List.mem_append_right _ (List.mem_of_getElem? (i := 558) (by decide +kernel))) rfl
theorem ml_X7_146 : Cond.methodLink RX7 146 yX6_closerMake ∈ GB := gb_in (List.mem_append_right _ (List.mem_of_getElem? (i := 559) (by decide +kernel))) rfl
theorem ml_X7_149 : Cond.methodLink RX7 149 yX6_standsIn ∈ GB := gb_in (List.mem_append_right _ (List.mem_of_getElem? (i := 560) (by decide +kernel))) rfl
theorem ml_X7_152 : Cond.methodLink RX7 152 yX6_placesOf ∈ GB := gb_in (List.mem_append_right _ (List.mem_of_getElem? (i := 561) (by decide +kernel))) rfl
theorem im_X6_placesOf : Cond.instanceMethod yX6_placesOf ∈ GB := gb_in (List.mem_append_right _ (List.mem_of_getElem? (i := 562) (by decide +kernel))) rfl
theorem se_X6_placesOf : Cond.selects RX6 yX6_placesOf yX6_placesOf ∈ GB := gb_in (List.mem_append_right _ (List.mem_of_getElem? (i := 563) (by decide +kernel))) rfl
theorem co_X6_placesOf : Cond.code yX6_placesOf cX6_placesOf 2 (some .int) ∈ GB := gb_in (List.mem_append_right _ (List.mem_of_getElem? (i := 564) (by decide +kernel))) rfl
theorem ml_L_55 : Cond.methodLink RL 55 yX7_count ∈ GB := gb_in (List.mem_append_right _ (List.mem_of_getElem? (i := 565) (by decide +kernel))) rfl
theorem im_X7_count : Cond.instanceMethod yX7_count ∈ GB := gb_in (List.mem_append_right _ (List.mem_of_getElem? (i := 566) (by decide +kernel))) rfl
theorem se_X7_count : Cond.selects RX7 yX7_count yX7_count ∈ GB := gb_in (List.mem_append_right _ (List.mem_of_getElem? (i := 567) (by decide +kernel))) rfl
theorem co_X7_count : Cond.code yX7_count cX7_count 3 (some .int) ∈ GB := gb_in (List.mem_append_right _ (List.mem_of_getElem? (i := 568) (by decide +kernel))) rfl
theorem ml_X7_171 : Cond.methodLink RX7 171 yX6_standingIn ∈ GB := gb_in (List.mem_append_right _ (List.mem_of_getElem? (i := 569) (by decide +kernel))) rfl
theorem ml_X7_177 : Cond.methodLink RX7 177 yX5_wornKeys ∈ GB := gb_in (List.mem_append_right _ (List.mem_of_getElem? (i := 570) (by decide +kernel))) rfl
theorem im_X5_wornKeys : Cond.instanceMethod yX5_wornKeys ∈ GB := gb_in (List.mem_append_right _ (List.mem_of_getElem? (i := 571) (by decide +kernel))) rfl
theorem se_X5_wornKeys : Cond.selects RX5 yX5_wornKeys yX5_wornKeys ∈ GB := gb_in (List.mem_append_right _ (List.mem_of_getElem? (i := 572) (by decide +kernel))) rfl
theorem co_X5_wornKeys : Cond.code yX5_wornKeys cX5_wornKeys 3 (some .int) ∈ GB := gb_in (List.mem_append_right _ (List.mem_of_getElem? (i := 573) (by decide +kernel))) rfl
theorem ml_X5_75 : Cond.methodLink RX5 75 yX5_leftToClose ∈ GB := gb_in (List.mem_append_right _ (List.mem_of_getElem? (i := 574) (by decide +kernel))) rfl
theorem ml_L_59 : Cond.methodLink RL 59 yX7_canOpen ∈ GB := gb_in (List.mem_append_right _ (List.mem_of_getElem? (i := 575) (by decide +kernel))) rfl
theorem im_X7_canOpen : Cond.instanceMethod yX7_canOpen ∈ GB := gb_in (List.mem_append_right _ (List.mem_of_getElem? (i := 576) (by decide +kernel))) rfl
theorem se_X7_canOpen : Cond.selects RX7 yX7_canOpen yX7_canOpen ∈ GB := gb_in (List.mem_append_right _ (List.mem_of_getElem? (i := 577) (by decide +kernel))) rfl
theorem co_X7_canOpen : Cond.code yX7_canOpen cX7_canOpen 3 (some .int) ∈ GB := gb_in (List.mem_append_right _ (List.mem_of_getElem? (i := 578) (by decide +kernel))) rfl
theorem ml_X7_185 : Cond.methodLink RX7 185 yX7_arePlaces ∈ GB := gb_in (List.mem_append_right _ (List.mem_of_getElem? (i := 579) (by decide +kernel))) rfl
theorem st_X7_arePlaces : Cond.static yX7_arePlaces ∈ GB := gb_in (List.mem_append_right _ (List.mem_of_getElem? (i := 580) (by decide +kernel))) rfl
theorem co_X7_arePlaces : Cond.code yX7_arePlaces cX7_arePlaces 1 (some .boolean) ∈ GB := gb_in (List.mem_append_right _ (List.mem_of_getElem? (i := 581) (by decide +kernel))) rfl
theorem ml_L_63 : Cond.methodLink RL 63 yX7_canHave ∈ GB := gb_in (List.mem_append_right _ (List.mem_of_getElem? (i := 582) (by decide +kernel))) rfl
theorem im_X7_canHave : Cond.instanceMethod yX7_canHave ∈ GB := gb_in (List.mem_append_right _ (List.mem_of_getElem? (i := 583) (by decide +kernel))) rfl
theorem se_X7_canHave : Cond.selects RX7 yX7_canHave yX7_canHave ∈ GB := gb_in (List.mem_append_right _ (List.mem_of_getElem? (i := 584) (by decide +kernel))) rfl
theorem co_X7_canHave : Cond.code yX7_canHave cX7_canHave 4 (some .int) ∈ GB := gb_in (List.mem_append_right _ (List.mem_of_getElem? (i := 585) (by decide +kernel))) rfl
theorem ml_X7_188 : Cond.methodLink RX7 188 yX2_canHaveKey ∈ GB := gb_in (List.mem_append_right _ (List.mem_of_getElem? (i := 586) (by decide +kernel))) rfl
theorem im_X2_canHaveKey : Cond.instanceMethod yX2_canHaveKey ∈ GB := gb_in (List.mem_append_right _ (List.mem_of_getElem? (i := 587) (by decide +kernel))) rfl
theorem se_X2_canHaveKey : Cond.selects RX2 yX2_canHaveKey yX2_canHaveKey ∈ GB := gb_in (List.mem_append_right _ (List.mem_of_getElem? (i := 588) (by decide +kernel))) rfl
theorem co_X2_canHaveKey : Cond.code yX2_canHaveKey cX2_canHaveKey 5 (some .boolean) ∈ GB := gb_in (List.mem_append_right _ (List.mem_of_getElem? (i := 589) (by decide +kernel))) rfl
theorem ml_L_68 : Cond.methodLink RL 68 yX7_way ∈ GB := gb_in (List.mem_append_right _ (List.mem_of_getElem? (i := 590) (by decide +kernel))) rfl
theorem im_X7_way : Cond.instanceMethod yX7_way ∈ GB := gb_in (List.mem_append_right _ (List.mem_of_getElem? (i := 591) (by decide +kernel))) rfl
theorem se_X7_way : Cond.selects RX7 yX7_way yX7_way ∈ GB := gb_in (List.mem_append_right _ (List.mem_of_getElem? (i := 592) (by decide +kernel))) rfl
theorem co_X7_way : Cond.code yX7_way cX7_way 3 (some .int) ∈ GB := gb_in (List.mem_append_right _ (List.mem_of_getElem? (i := 593) (by decide +kernel))) rfl
theorem ml_X7_192 : Cond.methodLink RX7 192 yX1_stepOfWay ∈ GB := gb_in (List.mem_append_right _ (List.mem_of_getElem? (i := 594) (by decide +kernel))) rfl
theorem im_X1_stepOfWay : Cond.instanceMethod yX1_stepOfWay ∈ GB := gb_in (List.mem_append_right _ (List.mem_of_getElem? (i := 595) (by decide +kernel))) rfl
theorem se_X1_stepOfWay : Cond.selects RX1 yX1_stepOfWay yX1_stepOfWay ∈ GB := gb_in (List.mem_append_right _ (List.mem_of_getElem? (i := 596) (by decide +kernel))) rfl
theorem co_X1_stepOfWay : Cond.code yX1_stepOfWay cX1_stepOfWay 6 (some .int) ∈ GB := gb_in (List.mem_append_right _ (List.mem_of_getElem? (i := 597) (by decide +kernel))) rfl
theorem ml_X1_145 : Cond.methodLink RX1 145 yX5_aboveBox ∈ GB := gb_in (List.mem_append_right _ (List.mem_of_getElem? (i := 598) (by decide +kernel))) rfl
theorem ml_X1_148 : Cond.methodLink RX1 148 yX6_inHouseWithKey ∈ GB := gb_in (List.mem_append_right _ (List.mem_of_getElem? (i := 599) (by decide +kernel))) rfl
theorem im_X6_inHouseWithKey : Cond.instanceMethod yX6_inHouseWithKey ∈ GB := gb_in (List.mem_append_right _ (List.mem_of_getElem? (i := 600) (by decide +kernel))) rfl
theorem se_X6_inHouseWithKey : Cond.selects RX6 yX6_inHouseWithKey yX6_inHouseWithKey ∈ GB := gb_in (List.mem_append_right _ (List.mem_of_getElem? (i := 601) (by decide +kernel))) rfl
theorem co_X6_inHouseWithKey : Cond.code yX6_inHouseWithKey cX6_inHouseWithKey 4 (some .int) ∈ GB := gb_in (List.mem_append_right _ (List.mem_of_getElem? (i := 602) (by decide +kernel))) rfl
theorem ml_X6_45 : Cond.methodLink RX6 45 yX6_standsIn ∈ GB := gb_in (List.mem_append_right _ (List.mem_of_getElem? (i := 603) (by decide +kernel))) rfl
theorem ml_X6_49 : Cond.methodLink RX6 49 yX6_holdsMake ∈ GB := gb_in (List.mem_append_right _ (List.mem_of_getElem? (i := 604) (by decide +kernel))) rfl
theorem ml_X1_151 : Cond.methodLink RX1 151 yX6_inHouseWithBox ∈ GB := gb_in (List.mem_append_right _ (List.mem_of_getElem? (i := 605) (by decide +kernel))) rfl
theorem im_X6_inHouseWithBox : Cond.instanceMethod yX6_inHouseWithBox ∈ GB := gb_in (List.mem_append_right _ (List.mem_of_getElem? (i := 606) (by decide +kernel))) rfl
theorem se_X6_inHouseWithBox : Cond.selects RX6 yX6_inHouseWithBox yX6_inHouseWithBox ∈ GB := gb_in (List.mem_append_right _ (List.mem_of_getElem? (i := 607) (by decide +kernel))) rfl
theorem co_X6_inHouseWithBox : Cond.code yX6_inHouseWithBox cX6_inHouseWithBox 3 (some .int) ∈ GB := gb_in (List.mem_append_right _ (List.mem_of_getElem? (i := 608) (by decide +kernel))) rfl
theorem ml_X6_53 : Cond.methodLink RX6 53 yX6_holdsBox ∈ GB := gb_in (List.mem_append_right _ (List.mem_of_getElem? (i := 609) (by decide +kernel))) rfl
theorem im_X6_holdsBox : Cond.instanceMethod yX6_holdsBox ∈ GB := gb_in (List.mem_append_right _ (List.mem_of_getElem? (i := 610) (by decide +kernel))) rfl
theorem se_X6_holdsBox : Cond.selects RX6 yX6_holdsBox yX6_holdsBox ∈ GB := gb_in (List.mem_append_right _ (List.mem_of_getElem? (i := 611) (by decide +kernel))) rfl
theorem co_X6_holdsBox : Cond.code yX6_holdsBox cX6_holdsBox 3 (some .boolean) ∈ GB := gb_in (List.mem_append_right _ (List.mem_of_getElem? (i := 612) (by decide +kernel))) rfl
theorem ml_L_72 : Cond.methodLink RL 72 yX7_leaks ∈ GB := gb_in (List.mem_append_right _ (List.mem_of_getElem? (i := 613) (by decide +kernel))) rfl
theorem im_X7_leaks : Cond.instanceMethod yX7_leaks ∈ GB := gb_in (List.mem_append_right _ (List.mem_of_getElem? (i := 614) (by decide +kernel))) rfl
theorem se_X7_leaks : Cond.selects RX7 yX7_leaks yX7_leaks ∈ GB := gb_in (List.mem_append_right _ (List.mem_of_getElem? (i := 615) (by decide +kernel))) rfl
theorem co_X7_leaks : Cond.code yX7_leaks cX7_leaks 4 (some .int) ∈ GB := gb_in (List.mem_append_right _ (List.mem_of_getElem? (i := 616) (by decide +kernel))) rfl
theorem ml_X7_195 : Cond.methodLink RX7 195 yX5_isRoot ∈ GB := gb_in (List.mem_append_right _ (List.mem_of_getElem? (i := 617) (by decide +kernel))) rfl
theorem ml_X7_198 : Cond.methodLink RX7 198 yX2_boxesByLeak ∈ GB := gb_in (List.mem_append_right _ (List.mem_of_getElem? (i := 618) (by decide +kernel))) rfl
theorem im_X2_boxesByLeak : Cond.instanceMethod yX2_boxesByLeak ∈ GB := gb_in (List.mem_append_right _ (List.mem_of_getElem? (i := 619) (by decide +kernel))) rfl
theorem se_X2_boxesByLeak : Cond.selects RX2 yX2_boxesByLeak yX2_boxesByLeak ∈ GB := gb_in (List.mem_append_right _ (List.mem_of_getElem? (i := 620) (by decide +kernel))) rfl
theorem co_X2_boxesByLeak : Cond.code yX2_boxesByLeak cX2_boxesByLeak 5 (some .int) ∈ GB := gb_in (List.mem_append_right _ (List.mem_of_getElem? (i := 621) (by decide +kernel))) rfl
theorem ml_L_76 : Cond.methodLink RL 76 yX7_lostBy ∈ GB := gb_in (List.mem_append_right _ (List.mem_of_getElem? (i := 622) (by decide +kernel))) rfl
theorem im_X7_lostBy : Cond.instanceMethod yX7_lostBy ∈ GB := gb_in (List.mem_append_right _ (List.mem_of_getElem? (i := 623) (by decide +kernel))) rfl
theorem se_X7_lostBy : Cond.selects RX7 yX7_lostBy yX7_lostBy ∈ GB := gb_in (List.mem_append_right _ (List.mem_of_getElem? (i := 624) (by decide +kernel))) rfl
theorem co_X7_lostBy : Cond.code yX7_lostBy cX7_lostBy 3 (some .int) ∈ GB := gb_in (List.mem_append_right _ (List.mem_of_getElem? (i := 625) (by decide +kernel))) rfl
theorem ml_X7_202 : Cond.methodLink RX7 202 yX5_withAllBelow ∈ GB := gb_in (List.mem_append_right _ (List.mem_of_getElem? (i := 626) (by decide +kernel))) rfl
theorem ml_L_80 : Cond.methodLink RL 80 yX7_throwingMakes ∈ GB := gb_in (List.mem_append_right _ (List.mem_of_getElem? (i := 627) (by decide +kernel))) rfl
theorem im_X7_throwingMakes : Cond.instanceMethod yX7_throwingMakes ∈ GB := gb_in (List.mem_append_right _ (List.mem_of_getElem? (i := 628) (by decide +kernel))) rfl
theorem se_X7_throwingMakes : Cond.selects RX7 yX7_throwingMakes yX7_throwingMakes ∈ GB := gb_in (List.mem_append_right _ (List.mem_of_getElem? (i := 629) (by decide +kernel))) rfl
theorem co_X7_throwingMakes : Cond.code yX7_throwingMakes cX7_throwingMakes 3 (some .int) ∈ GB := gb_in (List.mem_append_right _ (List.mem_of_getElem? (i := 630) (by decide +kernel))) rfl
theorem ml_X7_205 : Cond.methodLink RX7 205 yX1_wrapsByThrowing ∈ GB := gb_in (List.mem_append_right _ (List.mem_of_getElem? (i := 631) (by decide +kernel))) rfl
theorem im_X1_wrapsByThrowing : Cond.instanceMethod yX1_wrapsByThrowing ∈ GB := gb_in (List.mem_append_right _ (List.mem_of_getElem? (i := 632) (by decide +kernel))) rfl
theorem se_X1_wrapsByThrowing : Cond.selects RX1 yX1_wrapsByThrowing yX1_wrapsByThrowing ∈ GB := gb_in (List.mem_append_right _ (List.mem_of_getElem? (i := 633) (by decide +kernel))) rfl
theorem co_X1_wrapsByThrowing : Cond.code yX1_wrapsByThrowing cX1_wrapsByThrowing 6 (some .int) ∈ GB := gb_in (List.mem_append_right _ (List.mem_of_getElem? (i := 634) (by decide +kernel))) rfl
theorem ml_L_84 : Cond.methodLink RL 84 yX7_mostWorn ∈ GB := gb_in (List.mem_append_right _ (List.mem_of_getElem? (i := 635) (by decide +kernel))) rfl
theorem im_X7_mostWorn : Cond.instanceMethod yX7_mostWorn ∈ GB := gb_in (List.mem_append_right _ (List.mem_of_getElem? (i := 636) (by decide +kernel))) rfl
theorem se_X7_mostWorn : Cond.selects RX7 yX7_mostWorn yX7_mostWorn ∈ GB := gb_in (List.mem_append_right _ (List.mem_of_getElem? (i := 637) (by decide +kernel))) rfl
theorem co_X7_mostWorn : Cond.code yX7_mostWorn cX7_mostWorn 3 (some .int) ∈ GB := gb_in (List.mem_append_right _ (List.mem_of_getElem? (i := 638) (by decide +kernel))) rfl
theorem ml_X7_208 : Cond.methodLink RX7 208 yX5_mostWornKey ∈ GB := gb_in (List.mem_append_right _ (List.mem_of_getElem? (i := 639) (by decide +kernel))) rfl
theorem im_X5_mostWornKey : Cond.instanceMethod yX5_mostWornKey ∈ GB := gb_in (List.mem_append_right _ (List.mem_of_getElem? (i := 640) (by decide +kernel))) rfl
theorem se_X5_mostWornKey : Cond.selects RX5 yX5_mostWornKey yX5_mostWornKey ∈ GB := gb_in (List.mem_append_right _ (List.mem_of_getElem? (i := 641) (by decide +kernel))) rfl
theorem co_X5_mostWornKey : Cond.code yX5_mostWornKey cX5_mostWornKey 3 (some .int) ∈ GB := gb_in (List.mem_append_right _ (List.mem_of_getElem? (i := 642) (by decide +kernel))) rfl
theorem ml_X7_211 : Cond.methodLink RX7 211 yX5_leftToClose ∈ GB := gb_in (List.mem_append_right _ (List.mem_of_getElem? (i := 643) (by decide +kernel))) rfl
theorem ml_L_90 : Cond.methodLink RL 90 yX7_put ∈ GB := gb_in (List.mem_append_right _ (List.mem_of_getElem? (i := 644) (by decide +kernel))) rfl
theorem im_X7_put : Cond.instanceMethod yX7_put ∈ GB := gb_in (List.mem_append_right _ (List.mem_of_getElem? (i := 645) (by decide +kernel))) rfl
theorem se_X7_put : Cond.selects RX7 yX7_put yX7_put ∈ GB := gb_in (List.mem_append_right _ (List.mem_of_getElem? (i := 646) (by decide +kernel))) rfl
theorem co_X7_put : Cond.code yX7_put cX7_put 3 (some .int) ∈ GB := gb_in (List.mem_append_right _ (List.mem_of_getElem? (i := 647) (by decide +kernel))) rfl
theorem ml_X7_214 : Cond.methodLink RX7 214 yX3_append ∈ GB := gb_in (List.mem_append_right _ (List.mem_of_getElem? (i := 648) (by decide +kernel))) rfl
theorem im_X3_append : Cond.instanceMethod yX3_append ∈ GB := gb_in (List.mem_append_right _ (List.mem_of_getElem? (i := 649) (by decide +kernel))) rfl
theorem se_X3_append : Cond.selects RX3 yX3_append yX3_append ∈ GB := gb_in (List.mem_append_right _ (List.mem_of_getElem? (i := 650) (by decide +kernel))) rfl
theorem co_X3_append : Cond.code yX3_append cX3_append 5 (some .int) ∈ GB := gb_in (List.mem_append_right _ (List.mem_of_getElem? (i := 651) (by decide +kernel))) rfl
theorem ml_X3_36 : Cond.methodLink RX3 36 yX3_charactersIn ∈ GB := gb_in (List.mem_append_right _ (List.mem_of_getElem? (i := 652) (by decide +kernel))) rfl
theorem st_X3_charactersIn : Cond.static yX3_charactersIn ∈ GB := gb_in (List.mem_append_right _ (List.mem_of_getElem? (i := 653) (by decide +kernel))) rfl
theorem co_X3_charactersIn : Cond.code yX3_charactersIn cX3_charactersIn 4 (some .int) ∈ GB := gb_in (List.mem_append_right _ (List.mem_of_getElem? (i := 654) (by decide +kernel))) rfl
theorem ml_X3_40 : Cond.methodLink RX3 40 yX3_signFromRight ∈ GB := gb_in (List.mem_append_right _ (List.mem_of_getElem? (i := 655) (by decide +kernel))) rfl
theorem st_X3_signFromRight : Cond.static yX3_signFromRight ∈ GB := gb_in (List.mem_append_right _ (List.mem_of_getElem? (i := 656) (by decide +kernel))) rfl
theorem co_X3_signFromRight : Cond.code yX3_signFromRight cX3_signFromRight 3 (some .int) ∈ GB := gb_in (List.mem_append_right _ (List.mem_of_getElem? (i := 657) (by decide +kernel))) rfl
theorem k_X3_48 : Cond.constantLong RX3 48 255 ∈ GB := gb_in (List.mem_append_right _ (List.mem_of_getElem? (i := 658) (by decide +kernel))) rfl
theorem ml_X3_44 : Cond.methodLink RX3 44 yX4_set ∈ GB := gb_in (List.mem_append_right _ (List.mem_of_getElem? (i := 659) (by decide +kernel))) rfl
theorem ml_L_95 : Cond.methodLink RL 95 yX7_wipe ∈ GB := gb_in (List.mem_append_right _ (List.mem_of_getElem? (i := 660) (by decide +kernel))) rfl
theorem im_X7_wipe : Cond.instanceMethod yX7_wipe ∈ GB := gb_in (List.mem_append_right _ (List.mem_of_getElem? (i := 661) (by decide +kernel))) rfl
theorem se_X7_wipe : Cond.selects RX7 yX7_wipe yX7_wipe ∈ GB := gb_in (List.mem_append_right _ (List.mem_of_getElem? (i := 662) (by decide +kernel))) rfl
theorem co_X7_wipe : Cond.code yX7_wipe cX7_wipe 1 (some .int) ∈ GB := gb_in (List.mem_append_right _ (List.mem_of_getElem? (i := 663) (by decide +kernel))) rfl
theorem ml_X7_218 : Cond.methodLink RX7 218 yX3_clear ∈ GB := gb_in (List.mem_append_right _ (List.mem_of_getElem? (i := 664) (by decide +kernel))) rfl
theorem im_X3_clear : Cond.instanceMethod yX3_clear ∈ GB := gb_in (List.mem_append_right _ (List.mem_of_getElem? (i := 665) (by decide +kernel))) rfl
theorem se_X3_clear : Cond.selects RX3 yX3_clear yX3_clear ∈ GB := gb_in (List.mem_append_right _ (List.mem_of_getElem? (i := 666) (by decide +kernel))) rfl
theorem co_X3_clear : Cond.code yX3_clear cX3_clear 2 (some .int) ∈ GB := gb_in (List.mem_append_right _ (List.mem_of_getElem? (i := 667) (by decide +kernel))) rfl
theorem ml_L_100 : Cond.methodLink RL 100 yX7_fault ∈ GB := gb_in (List.mem_append_right _ (List.mem_of_getElem? (i := 668) (by decide +kernel))) rfl
theorem im_X7_fault : Cond.instanceMethod yX7_fault ∈ GB := gb_in (List.mem_append_right _ (List.mem_of_getElem? (i := 669) (by decide +kernel))) rfl
theorem se_X7_fault : Cond.selects RX7 yX7_fault yX7_fault ∈ GB := gb_in (List.mem_append_right _ (List.mem_of_getElem? (i := 670) (by decide +kernel))) rfl
theorem co_X7_fault : Cond.code yX7_fault cX7_fault 1 (some .int) ∈ GB := gb_in (List.mem_append_right _ (List.mem_of_getElem? (i := 671) (by decide +kernel))) rfl
theorem ml_X7_221 : Cond.methodLink RX7 221 yX3_findFault ∈ GB := gb_in (List.mem_append_right _ (List.mem_of_getElem? (i := 672) (by decide +kernel))) rfl
theorem im_X3_findFault : Cond.instanceMethod yX3_findFault ∈ GB := gb_in (List.mem_append_right _ (List.mem_of_getElem? (i := 673) (by decide +kernel))) rfl
theorem se_X3_findFault : Cond.selects RX3 yX3_findFault yX3_findFault ∈ GB := gb_in (List.mem_append_right _ (List.mem_of_getElem? (i := 674) (by decide +kernel))) rfl
theorem co_X3_findFault : Cond.code yX3_findFault cX3_findFault 2 (some .int) ∈ GB := gb_in (List.mem_append_right _ (List.mem_of_getElem? (i := 675) (by decide +kernel))) rfl
theorem ml_X3_50 : Cond.methodLink RX3 50 yX3_startReading ∈ GB := gb_in (List.mem_append_right _ (List.mem_of_getElem? (i := 676) (by decide +kernel))) rfl
theorem im_X3_startReading : Cond.instanceMethod yX3_startReading ∈ GB := gb_in (List.mem_append_right _ (List.mem_of_getElem? (i := 677) (by decide +kernel))) rfl
theorem se_X3_startReading : Cond.selects RX3 yX3_startReading yX3_startReading ∈ GB := gb_in (List.mem_append_right _ (List.mem_of_getElem? (i := 678) (by decide +kernel))) rfl
theorem co_X3_startReading : Cond.code yX3_startReading cX3_startReading 1 none ∈ GB := gb_in (List.mem_append_right _ (List.mem_of_getElem? (i := 679) (by decide +kernel))) rfl
theorem ml_X3_53 : Cond.methodLink RX3 53 yX3_readNext ∈ GB := gb_in (List.mem_append_right _ (List.mem_of_getElem? (i := 680) (by decide +kernel))) rfl
theorem im_X3_readNext : Cond.instanceMethod yX3_readNext ∈ GB := gb_in (List.mem_append_right _ (List.mem_of_getElem? (i := 681) (by decide +kernel))) rfl
theorem se_X3_readNext : Cond.selects RX3 yX3_readNext yX3_readNext ∈ GB := gb_in (List.mem_append_right _ (List.mem_of_getElem? (i := 682) (by decide +kernel))) rfl
theorem co_X3_readNext : Cond.code yX3_readNext cX3_readNext 1 (some .boolean) ∈ GB := gb_in (List.mem_append_right _ (List.mem_of_getElem? (i := 683) (by decide +kernel))) rfl
theorem ml_X3_60 : Cond.methodLink RX3 60 yX3_skip ∈ GB := gb_in (List.mem_append_right _ (List.mem_of_getElem? (i := 684) (by decide +kernel))) rfl
theorem im_X3_skip : Cond.instanceMethod yX3_skip ∈ GB := gb_in (List.mem_append_right _ (List.mem_of_getElem? (i := 686) (by decide +kernel))) rfl
theorem co_X3_skip : Cond.code yX3_skip cX3_skip 3 (some .boolean) ∈ GB := gb_in (List.mem_append_right _ (List.mem_of_getElem? (i := 687) (by decide +kernel))) rfl
theorem ml_X3_67 : Cond.methodLink RX3 67 yX3_nextSign ∈ GB := gb_in (List.mem_append_right _ (List.mem_of_getElem? (i := 688) (by decide +kernel))) rfl
theorem im_X3_nextSign : Cond.instanceMethod yX3_nextSign ∈ GB := gb_in (List.mem_append_right _ (List.mem_of_getElem? (i := 690) (by decide +kernel))) rfl
theorem co_X3_nextSign : Cond.code yX3_nextSign cX3_nextSign 1 (some .int) ∈ GB := gb_in (List.mem_append_right _ (List.mem_of_getElem? (i := 691) (by decide +kernel))) rfl
theorem ml_X3_57 : Cond.methodLink RX3 57 yX3_hasMore ∈ GB := gb_in (List.mem_append_right _ (List.mem_of_getElem? (i := 692) (by decide +kernel))) rfl
theorem im_X3_hasMore : Cond.instanceMethod yX3_hasMore ∈ GB := gb_in (List.mem_append_right _ (List.mem_of_getElem? (i := 693) (by decide +kernel))) rfl
theorem se_X3_hasMore : Cond.selects RX3 yX3_hasMore yX3_hasMore ∈ GB := gb_in (List.mem_append_right _ (List.mem_of_getElem? (i := 694) (by decide +kernel))) rfl
theorem co_X3_hasMore : Cond.code yX3_hasMore cX3_hasMore 1 (some .boolean) ∈ GB := gb_in (List.mem_append_right _ (List.mem_of_getElem? (i := 695) (by decide +kernel))) rfl
theorem ml_X3_84 : Cond.methodLink RX3 84 yX4_at ∈ GB := gb_in (List.mem_append_right _ (List.mem_of_getElem? (i := 696) (by decide +kernel))) rfl
theorem ml_X3_64 : Cond.methodLink RX3 64 yX3_readOrder ∈ GB := gb_in (List.mem_append_right _ (List.mem_of_getElem? (i := 697) (by decide +kernel))) rfl
theorem im_X3_readOrder : Cond.instanceMethod yX3_readOrder ∈ GB := gb_in (List.mem_append_right _ (List.mem_of_getElem? (i := 699) (by decide +kernel))) rfl
theorem co_X3_readOrder : Cond.code yX3_readOrder cX3_readOrder 1 (some .boolean) ∈ GB := gb_in (List.mem_append_right _ (List.mem_of_getElem? (i := 700) (by decide +kernel))) rfl
theorem ml_X3_71 : Cond.methodLink RX3 71 yX3_isLetter ∈ GB := gb_in (List.mem_append_right _ (List.mem_of_getElem? (i := 701) (by decide +kernel))) rfl
theorem st_X3_isLetter : Cond.static yX3_isLetter ∈ GB := gb_in (List.mem_append_right _ (List.mem_of_getElem? (i := 702) (by decide +kernel))) rfl
theorem co_X3_isLetter : Cond.code yX3_isLetter cX3_isLetter 1 (some .boolean) ∈ GB := gb_in (List.mem_append_right _ (List.mem_of_getElem? (i := 703) (by decide +kernel))) rfl
theorem ml_X3_74 : Cond.methodLink RX3 74 yX3_readNumber ∈ GB := gb_in (List.mem_append_right _ (List.mem_of_getElem? (i := 704) (by decide +kernel))) rfl
theorem im_X3_readNumber : Cond.instanceMethod yX3_readNumber ∈ GB := gb_in (List.mem_append_right _ (List.mem_of_getElem? (i := 706) (by decide +kernel))) rfl
theorem co_X3_readNumber : Cond.code yX3_readNumber cX3_readNumber 3 (some .boolean) ∈ GB := gb_in (List.mem_append_right _ (List.mem_of_getElem? (i := 707) (by decide +kernel))) rfl
theorem ml_X3_80 : Cond.methodLink RX3 80 yX3_isDigit ∈ GB := gb_in (List.mem_append_right _ (List.mem_of_getElem? (i := 708) (by decide +kernel))) rfl
theorem st_X3_isDigit : Cond.static yX3_isDigit ∈ GB := gb_in (List.mem_append_right _ (List.mem_of_getElem? (i := 709) (by decide +kernel))) rfl
theorem co_X3_isDigit : Cond.code yX3_isDigit cX3_isDigit 2 (some .boolean) ∈ GB := gb_in (List.mem_append_right _ (List.mem_of_getElem? (i := 710) (by decide +kernel))) rfl
theorem ml_X3_77 : Cond.methodLink RX3 77 yX3_readPlace ∈ GB := gb_in (List.mem_append_right _ (List.mem_of_getElem? (i := 711) (by decide +kernel))) rfl
theorem im_X3_readPlace : Cond.instanceMethod yX3_readPlace ∈ GB := gb_in (List.mem_append_right _ (List.mem_of_getElem? (i := 713) (by decide +kernel))) rfl
theorem co_X3_readPlace : Cond.code yX3_readPlace cX3_readPlace 1 (some .boolean) ∈ GB := gb_in (List.mem_append_right _ (List.mem_of_getElem? (i := 714) (by decide +kernel))) rfl
theorem ml_L_104 : Cond.methodLink RL 104 yX7_carryOut ∈ GB := gb_in (List.mem_append_right _ (List.mem_of_getElem? (i := 715) (by decide +kernel))) rfl
theorem im_X7_carryOut : Cond.instanceMethod yX7_carryOut ∈ GB := gb_in (List.mem_append_right _ (List.mem_of_getElem? (i := 716) (by decide +kernel))) rfl
theorem se_X7_carryOut : Cond.selects RX7 yX7_carryOut yX7_carryOut ∈ GB := gb_in (List.mem_append_right _ (List.mem_of_getElem? (i := 717) (by decide +kernel))) rfl
theorem co_X7_carryOut : Cond.code yX7_carryOut cX7_carryOut 2 (some .int) ∈ GB := gb_in (List.mem_append_right _ (List.mem_of_getElem? (i := 718) (by decide +kernel))) rfl
theorem ml_X7_224 : Cond.methodLink RX7 224 yX3_startReading ∈ GB := gb_in (List.mem_append_right _ (List.mem_of_getElem? (i := 719) (by decide +kernel))) rfl
theorem ml_X7_227 : Cond.methodLink RX7 227 yX3_hasMore ∈ GB := gb_in (List.mem_append_right _ (List.mem_of_getElem? (i := 720) (by decide +kernel))) rfl
theorem ml_X7_231 : Cond.methodLink RX7 231 yX3_readNext ∈ GB := gb_in (List.mem_append_right _ (List.mem_of_getElem? (i := 721) (by decide +kernel))) rfl
theorem ml_X7_234 : Cond.methodLink RX7 234 yX7_carryOutOrder ∈ GB := gb_in (List.mem_append_right _ (List.mem_of_getElem? (i := 722) (by decide +kernel))) rfl
theorem im_X7_carryOutOrder : Cond.instanceMethod yX7_carryOutOrder ∈ GB := gb_in (List.mem_append_right _ (List.mem_of_getElem? (i := 724) (by decide +kernel))) rfl
theorem co_X7_carryOutOrder : Cond.code yX7_carryOutOrder cX7_carryOutOrder 1 (some .int) ∈ GB := gb_in (List.mem_append_right _ (List.mem_of_getElem? (i := 725) (by decide +kernel))) rfl
theorem ml_L_108 : Cond.methodLink RL 108 yX7_undo ∈ GB := gb_in (List.mem_append_right _ (List.mem_of_getElem? (i := 726) (by decide +kernel))) rfl
theorem im_X7_undo : Cond.instanceMethod yX7_undo ∈ GB := gb_in (List.mem_append_right _ (List.mem_of_getElem? (i := 727) (by decide +kernel))) rfl
theorem se_X7_undo : Cond.selects RX7 yX7_undo yX7_undo ∈ GB := gb_in (List.mem_append_right _ (List.mem_of_getElem? (i := 728) (by decide +kernel))) rfl
theorem co_X7_undo : Cond.code yX7_undo cX7_undo 1 (some .int) ∈ GB := gb_in (List.mem_append_right _ (List.mem_of_getElem? (i := 729) (by decide +kernel))) rfl
theorem ml_X7_246 : Cond.methodLink RX7 246 yX0_stepBack ∈ GB := gb_in (List.mem_append_right _ (List.mem_of_getElem? (i := 730) (by decide +kernel))) rfl
theorem im_X0_stepBack : Cond.instanceMethod yX0_stepBack ∈ GB := gb_in (List.mem_append_right _ (List.mem_of_getElem? (i := 731) (by decide +kernel))) rfl
theorem se_X0_stepBack : Cond.selects RX0 yX0_stepBack yX0_stepBack ∈ GB := gb_in (List.mem_append_right _ (List.mem_of_getElem? (i := 732) (by decide +kernel))) rfl
theorem co_X0_stepBack : Cond.code yX0_stepBack cX0_stepBack 2 (some .int) ∈ GB := gb_in (List.mem_append_right _ (List.mem_of_getElem? (i := 733) (by decide +kernel))) rfl
theorem ml_L_112 : Cond.methodLink RL 112 yX7_save ∈ GB := gb_in (List.mem_append_right _ (List.mem_of_getElem? (i := 734) (by decide +kernel))) rfl
theorem im_X7_save : Cond.instanceMethod yX7_save ∈ GB := gb_in (List.mem_append_right _ (List.mem_of_getElem? (i := 735) (by decide +kernel))) rfl
theorem se_X7_save : Cond.selects RX7 yX7_save yX7_save ∈ GB := gb_in (List.mem_append_right _ (List.mem_of_getElem? (i := 736) (by decide +kernel))) rfl
theorem co_X7_save : Cond.code yX7_save cX7_save 3 (some .int) ∈ GB := gb_in (List.mem_append_right _ (List.mem_of_getElem? (i := 737) (by decide +kernel))) rfl
theorem ml_X7_250 : Cond.methodLink RX7 250 yX1_become ∈ GB := gb_in (List.mem_append_right _ (List.mem_of_getElem? (i := 738) (by decide +kernel))) rfl
theorem ml_L_116 : Cond.methodLink RL 116 yX7_restore ∈ GB := gb_in (List.mem_append_right _ (List.mem_of_getElem? (i := 739) (by decide +kernel))) rfl
theorem im_X7_restore : Cond.instanceMethod yX7_restore ∈ GB := gb_in (List.mem_append_right _ (List.mem_of_getElem? (i := 740) (by decide +kernel))) rfl
theorem se_X7_restore : Cond.selects RX7 yX7_restore yX7_restore ∈ GB := gb_in (List.mem_append_right _ (List.mem_of_getElem? (i := 741) (by decide +kernel))) rfl
theorem co_X7_restore : Cond.code yX7_restore cX7_restore 3 (some .int) ∈ GB := gb_in (List.mem_append_right _ (List.mem_of_getElem? (i := 742) (by decide +kernel))) rfl
theorem cl_L_10 : Cond.classLink RL 10 RX8 ∈ GB := gb_in (List.mem_append_right _ (List.mem_of_getElem? (i := 743) (by decide +kernel))) rfl
theorem ia_X8 : Cond.instantiable RX8 12 ∈ GB := gb_in (List.mem_append_right _ (List.mem_of_getElem? (i := 744) (by decide +kernel))) rfl
theorem ml_L_12 : Cond.methodLink RL 12 yX8_init ∈ GB := gb_in (List.mem_append_right _ (List.mem_of_getElem? (i := 745) (by decide +kernel))) rfl
theorem im_X8_init : Cond.instanceMethod yX8_init ∈ GB := gb_in (List.mem_append_right _ (List.mem_of_getElem? (i := 746) (by decide +kernel))) rfl
theorem co_X8_init : Cond.code yX8_init cX8_init 1 none ∈ GB := gb_in (List.mem_append_right _ (List.mem_of_getElem? (i := 747) (by decide +kernel))) rfl
theorem ml_X8_1 : Cond.methodLink RX8 1 ⟨"java/lang/Object", "<init>", "()V"⟩ ∈ GB := gb_in (List.mem_append_right _ (List.mem_of_getElem? (i := 748) (by decide +kernel))) rfl
theorem fl_X8_7 : Cond.fieldLink RX8 7 "HangingKeysModel" "state" "[I" ∈ GB := gb_in (List.mem_append_right _ (List.mem_of_getElem? (i := 749) (by decide +kernel))) rfl
theorem fl_X8_13 : Cond.fieldLink RX8 13 "HangingKeysModel" "history" "[I" ∈ GB := gb_in (List.mem_append_right _ (List.mem_of_getElem? (i := 750) (by decide +kernel))) rfl
theorem fl_X8_28 : Cond.fieldLink RX8 28 "HangingKeysModel" "recorded" "I" ∈ GB := gb_in (List.mem_append_right _ (List.mem_of_getElem? (i := 751) (by decide +kernel))) rfl
theorem fl_X8_16 : Cond.fieldLink RX8 16 "HangingKeysModel" "slots" "[I" ∈ GB := gb_in (List.mem_append_right _ (List.mem_of_getElem? (i := 752) (by decide +kernel))) rfl
theorem fl_X8_19 : Cond.fieldLink RX8 19 "HangingKeysModel" "isSaved" "[I" ∈ GB := gb_in (List.mem_append_right _ (List.mem_of_getElem? (i := 753) (by decide +kernel))) rfl
theorem fl_X8_22 : Cond.fieldLink RX8 22 "HangingKeysModel" "pad" "[I" ∈ GB := gb_in (List.mem_append_right _ (List.mem_of_getElem? (i := 754) (by decide +kernel))) rfl
theorem fl_X8_204 : Cond.fieldLink RX8 204 "HangingKeysModel" "padLength" "I" ∈ GB := gb_in (List.mem_append_right _ (List.mem_of_getElem? (i := 755) (by decide +kernel))) rfl
theorem fl_X8_25 : Cond.fieldLink RX8 25 "HangingKeysModel" "opened" "[I" ∈ GB := gb_in (List.mem_append_right _ (List.mem_of_getElem? (i := 756) (by decide +kernel))) rfl
theorem fl_X8_215 : Cond.fieldLink RX8 215 "HangingKeysModel" "at" "I" ∈ GB := gb_in (List.mem_append_right _ (List.mem_of_getElem? (i := 757) (by decide +kernel))) rfl
theorem fl_X8_221 : Cond.fieldLink RX8 221 "HangingKeysModel" "letter" "I" ∈ GB := gb_in (List.mem_append_right _ (List.mem_of_getElem? (i := 758) (by decide +kernel))) rfl
theorem fl_X8_230 : Cond.fieldLink RX8 230 "HangingKeysModel" "first" "I" ∈ GB := gb_in (List.mem_append_right _ (List.mem_of_getElem? (i := 759) (by decide +kernel))) rfl
theorem fl_X8_236 : Cond.fieldLink RX8 236 "HangingKeysModel" "second" "I" ∈ GB := gb_in (List.mem_append_right _ (List.mem_of_getElem? (i := 760) (by decide +kernel))) rfl
theorem ml_L_17 : Cond.methodLink RL 17 yX8_wear ∈ GB := gb_in (List.mem_append_right _ (List.mem_of_getElem? (i := 786) (by decide +kernel))) rfl
theorem im_X8_wear : Cond.instanceMethod yX8_wear ∈ GB := gb_in (List.mem_append_right _ (List.mem_of_getElem? (i := 787) (by decide +kernel))) rfl
theorem se_X8_wear : Cond.selects RX8 yX8_wear yX8_wear ∈ GB := gb_in (List.mem_append_right _ (List.mem_of_getElem? (i := 788) (by decide +kernel))) rfl
theorem co_X8_wear : Cond.code yX8_wear cX8_wear 3 (some .int) ∈ GB := gb_in (List.mem_append_right _ (List.mem_of_getElem? (i := 789) (by decide +kernel))) rfl
theorem ml_X8_36 : Cond.methodLink RX8 36 yX8_within ∈ GB := gb_in (List.mem_append_right _ (List.mem_of_getElem? (i := 790) (by decide +kernel))) rfl
theorem st_X8_within : Cond.static yX8_within ∈ GB := gb_in (List.mem_append_right _ (List.mem_of_getElem? (i := 791) (by decide +kernel))) rfl
theorem co_X8_within : Cond.code yX8_within cX8_within 3 (some .boolean) ∈ GB := gb_in (List.mem_append_right _ (List.mem_of_getElem? (i := 792) (by decide +kernel))) rfl
theorem ml_X8_102 : Cond.methodLink RX8 102 yX8_record ∈ GB := gb_in (List.mem_append_right _ (List.mem_of_getElem? (i := 793) (by decide +kernel))) rfl
theorem im_X8_record : Cond.instanceMethod yX8_record ∈ GB := gb_in (List.mem_append_right _ (List.mem_of_getElem? (i := 795) (by decide +kernel))) rfl
theorem co_X8_record : Cond.code yX8_record cX8_record 2 none ∈ GB := gb_in (List.mem_append_right _ (List.mem_of_getElem? (i := 796) (by decide +kernel))) rfl
theorem ml_X8_32 : Cond.methodLink RX8 32 yX8_moves ∈ GB := gb_in (List.mem_append_right _ (List.mem_of_getElem? (i := 797) (by decide +kernel))) rfl
theorem st_X8_moves : Cond.static yX8_moves ∈ GB := gb_in (List.mem_append_right _ (List.mem_of_getElem? (i := 798) (by decide +kernel))) rfl
theorem co_X8_moves : Cond.code yX8_moves cX8_moves 5 none ∈ GB := gb_in (List.mem_append_right _ (List.mem_of_getElem? (i := 799) (by decide +kernel))) rfl
theorem ml_L_21 : Cond.methodLink RL 21 yX8_key ∈ GB := gb_in (List.mem_append_right _ (List.mem_of_getElem? (i := 800) (by decide +kernel))) rfl
theorem im_X8_key : Cond.instanceMethod yX8_key ∈ GB := gb_in (List.mem_append_right _ (List.mem_of_getElem? (i := 801) (by decide +kernel))) rfl
theorem se_X8_key : Cond.selects RX8 yX8_key yX8_key ∈ GB := gb_in (List.mem_append_right _ (List.mem_of_getElem? (i := 802) (by decide +kernel))) rfl
theorem co_X8_key : Cond.code yX8_key cX8_key 3 (some .int) ∈ GB := gb_in (List.mem_append_right _ (List.mem_of_getElem? (i := 803) (by decide +kernel))) rfl
theorem ml_X8_111 : Cond.methodLink RX8 111 yX8_whyNoKey ∈ GB := gb_in (List.mem_append_right _ (List.mem_of_getElem? (i := 804) (by decide +kernel))) rfl
theorem im_X8_whyNoKey : Cond.instanceMethod yX8_whyNoKey ∈ GB := gb_in (List.mem_append_right _ (List.mem_of_getElem? (i := 806) (by decide +kernel))) rfl
theorem co_X8_whyNoKey : Cond.code yX8_whyNoKey cX8_whyNoKey 2 (some .int) ∈ GB := gb_in (List.mem_append_right _ (List.mem_of_getElem? (i := 807) (by decide +kernel))) rfl
theorem ml_X8_105 : Cond.methodLink RX8 105 yX8_isLiveKey ∈ GB := gb_in (List.mem_append_right _ (List.mem_of_getElem? (i := 808) (by decide +kernel))) rfl
theorem im_X8_isLiveKey : Cond.instanceMethod yX8_isLiveKey ∈ GB := gb_in (List.mem_append_right _ (List.mem_of_getElem? (i := 810) (by decide +kernel))) rfl
theorem co_X8_isLiveKey : Cond.code yX8_isLiveKey cX8_isLiveKey 2 (some .boolean) ∈ GB := gb_in (List.mem_append_right _ (List.mem_of_getElem? (i := 811) (by decide +kernel))) rfl
theorem ml_X8_40 : Cond.methodLink RX8 40 yX8_isKey ∈ GB := gb_in (List.mem_append_right _ (List.mem_of_getElem? (i := 812) (by decide +kernel))) rfl
theorem im_X8_isKey : Cond.instanceMethod yX8_isKey ∈ GB := gb_in (List.mem_append_right _ (List.mem_of_getElem? (i := 814) (by decide +kernel))) rfl
theorem co_X8_isKey : Cond.code yX8_isKey cX8_isKey 2 (some .boolean) ∈ GB := gb_in (List.mem_append_right _ (List.mem_of_getElem? (i := 815) (by decide +kernel))) rfl
theorem ml_X8_44 : Cond.methodLink RX8 44 yX8_keyPart ∈ GB := gb_in (List.mem_append_right _ (List.mem_of_getElem? (i := 816) (by decide +kernel))) rfl
theorem im_X8_keyPart : Cond.instanceMethod yX8_keyPart ∈ GB := gb_in (List.mem_append_right _ (List.mem_of_getElem? (i := 818) (by decide +kernel))) rfl
theorem co_X8_keyPart : Cond.code yX8_keyPart cX8_keyPart 3 (some .int) ∈ GB := gb_in (List.mem_append_right _ (List.mem_of_getElem? (i := 819) (by decide +kernel))) rfl
theorem ml_X8_108 : Cond.methodLink RX8 108 yX8_canClose ∈ GB := gb_in (List.mem_append_right _ (List.mem_of_getElem? (i := 820) (by decide +kernel))) rfl
theorem im_X8_canClose : Cond.instanceMethod yX8_canClose ∈ GB := gb_in (List.mem_append_right _ (List.mem_of_getElem? (i := 822) (by decide +kernel))) rfl
theorem co_X8_canClose : Cond.code yX8_canClose cX8_canClose 2 (some .boolean) ∈ GB := gb_in (List.mem_append_right _ (List.mem_of_getElem? (i := 823) (by decide +kernel))) rfl
theorem ml_X8_114 : Cond.methodLink RX8 114 yX8_makeKey ∈ GB := gb_in (List.mem_append_right _ (List.mem_of_getElem? (i := 824) (by decide +kernel))) rfl
theorem im_X8_makeKey : Cond.instanceMethod yX8_makeKey ∈ GB := gb_in (List.mem_append_right _ (List.mem_of_getElem? (i := 826) (by decide +kernel))) rfl
theorem co_X8_makeKey : Cond.code yX8_makeKey cX8_makeKey 3 (some .int) ∈ GB := gb_in (List.mem_append_right _ (List.mem_of_getElem? (i := 827) (by decide +kernel))) rfl
theorem ml_X8_68 : Cond.methodLink RX8 68 yX8_setKey ∈ GB := gb_in (List.mem_append_right _ (List.mem_of_getElem? (i := 828) (by decide +kernel))) rfl
theorem im_X8_setKey : Cond.instanceMethod yX8_setKey ∈ GB := gb_in (List.mem_append_right _ (List.mem_of_getElem? (i := 830) (by decide +kernel))) rfl
theorem co_X8_setKey : Cond.code yX8_setKey cX8_setKey 4 none ∈ GB := gb_in (List.mem_append_right _ (List.mem_of_getElem? (i := 831) (by decide +kernel))) rfl
theorem ml_X8_74 : Cond.methodLink RX8 74 yX8_wrapKey ∈ GB := gb_in (List.mem_append_right _ (List.mem_of_getElem? (i := 832) (by decide +kernel))) rfl
theorem im_X8_wrapKey : Cond.instanceMethod yX8_wrapKey ∈ GB := gb_in (List.mem_append_right _ (List.mem_of_getElem? (i := 834) (by decide +kernel))) rfl
theorem co_X8_wrapKey : Cond.code yX8_wrapKey cX8_wrapKey 2 none ∈ GB := gb_in (List.mem_append_right _ (List.mem_of_getElem? (i := 835) (by decide +kernel))) rfl
theorem ml_X8_71 : Cond.methodLink RX8 71 yX8_makeWrap ∈ GB := gb_in (List.mem_append_right _ (List.mem_of_getElem? (i := 836) (by decide +kernel))) rfl
theorem im_X8_makeWrap : Cond.instanceMethod yX8_makeWrap ∈ GB := gb_in (List.mem_append_right _ (List.mem_of_getElem? (i := 838) (by decide +kernel))) rfl
theorem co_X8_makeWrap : Cond.code yX8_makeWrap cX8_makeWrap 5 none ∈ GB := gb_in (List.mem_append_right _ (List.mem_of_getElem? (i := 839) (by decide +kernel))) rfl
theorem ml_X8_64 : Cond.methodLink RX8 64 yX8_setWrap ∈ GB := gb_in (List.mem_append_right _ (List.mem_of_getElem? (i := 840) (by decide +kernel))) rfl
theorem im_X8_setWrap : Cond.instanceMethod yX8_setWrap ∈ GB := gb_in (List.mem_append_right _ (List.mem_of_getElem? (i := 842) (by decide +kernel))) rfl
theorem co_X8_setWrap : Cond.code yX8_setWrap cX8_setWrap 4 none ∈ GB := gb_in (List.mem_append_right _ (List.mem_of_getElem? (i := 843) (by decide +kernel))) rfl
theorem ml_L_25 : Cond.methodLink RL 25 yX8_box ∈ GB := gb_in (List.mem_append_right _ (List.mem_of_getElem? (i := 844) (by decide +kernel))) rfl
theorem im_X8_box : Cond.instanceMethod yX8_box ∈ GB := gb_in (List.mem_append_right _ (List.mem_of_getElem? (i := 845) (by decide +kernel))) rfl
theorem se_X8_box : Cond.selects RX8 yX8_box yX8_box ∈ GB := gb_in (List.mem_append_right _ (List.mem_of_getElem? (i := 846) (by decide +kernel))) rfl
theorem co_X8_box : Cond.code yX8_box cX8_box 3 (some .int) ∈ GB := gb_in (List.mem_append_right _ (List.mem_of_getElem? (i := 847) (by decide +kernel))) rfl
theorem ml_X8_120 : Cond.methodLink RX8 120 yX8_whyNoBox ∈ GB := gb_in (List.mem_append_right _ (List.mem_of_getElem? (i := 848) (by decide +kernel))) rfl
theorem im_X8_whyNoBox : Cond.instanceMethod yX8_whyNoBox ∈ GB := gb_in (List.mem_append_right _ (List.mem_of_getElem? (i := 850) (by decide +kernel))) rfl
theorem co_X8_whyNoBox : Cond.code yX8_whyNoBox cX8_whyNoBox 2 (some .int) ∈ GB := gb_in (List.mem_append_right _ (List.mem_of_getElem? (i := 851) (by decide +kernel))) rfl
theorem ml_X8_123 : Cond.methodLink RX8 123 yX8_makeBox ∈ GB := gb_in (List.mem_append_right _ (List.mem_of_getElem? (i := 852) (by decide +kernel))) rfl
theorem im_X8_makeBox : Cond.instanceMethod yX8_makeBox ∈ GB := gb_in (List.mem_append_right _ (List.mem_of_getElem? (i := 854) (by decide +kernel))) rfl
theorem co_X8_makeBox : Cond.code yX8_makeBox cX8_makeBox 3 (some .int) ∈ GB := gb_in (List.mem_append_right _ (List.mem_of_getElem? (i := 855) (by decide +kernel))) rfl
theorem ml_X8_117 : Cond.methodLink RX8 117 yX8_setBox ∈ GB := gb_in (List.mem_append_right _ (List.mem_of_getElem? (i := 856) (by decide +kernel))) rfl
theorem im_X8_setBox : Cond.instanceMethod yX8_setBox ∈ GB := gb_in (List.mem_append_right _ (List.mem_of_getElem? (i := 858) (by decide +kernel))) rfl
theorem co_X8_setBox : Cond.code yX8_setBox cX8_setBox 4 none ∈ GB := gb_in (List.mem_append_right _ (List.mem_of_getElem? (i := 859) (by decide +kernel))) rfl
theorem ml_X8_78 : Cond.methodLink RX8 78 yX8_wrapBox ∈ GB := gb_in (List.mem_append_right _ (List.mem_of_getElem? (i := 860) (by decide +kernel))) rfl
theorem im_X8_wrapBox : Cond.instanceMethod yX8_wrapBox ∈ GB := gb_in (List.mem_append_right _ (List.mem_of_getElem? (i := 862) (by decide +kernel))) rfl
theorem co_X8_wrapBox : Cond.code yX8_wrapBox cX8_wrapBox 2 none ∈ GB := gb_in (List.mem_append_right _ (List.mem_of_getElem? (i := 863) (by decide +kernel))) rfl
theorem ml_X8_51 : Cond.methodLink RX8 51 yX8_boxPart ∈ GB := gb_in (List.mem_append_right _ (List.mem_of_getElem? (i := 864) (by decide +kernel))) rfl
theorem im_X8_boxPart : Cond.instanceMethod yX8_boxPart ∈ GB := gb_in (List.mem_append_right _ (List.mem_of_getElem? (i := 866) (by decide +kernel))) rfl
theorem co_X8_boxPart : Cond.code yX8_boxPart cX8_boxPart 3 (some .int) ∈ GB := gb_in (List.mem_append_right _ (List.mem_of_getElem? (i := 867) (by decide +kernel))) rfl
theorem ml_L_30 : Cond.methodLink RL 30 yX8_copy ∈ GB := gb_in (List.mem_append_right _ (List.mem_of_getElem? (i := 868) (by decide +kernel))) rfl
theorem im_X8_copy : Cond.instanceMethod yX8_copy ∈ GB := gb_in (List.mem_append_right _ (List.mem_of_getElem? (i := 869) (by decide +kernel))) rfl
theorem se_X8_copy : Cond.selects RX8 yX8_copy yX8_copy ∈ GB := gb_in (List.mem_append_right _ (List.mem_of_getElem? (i := 870) (by decide +kernel))) rfl
theorem co_X8_copy : Cond.code yX8_copy cX8_copy 4 (some .int) ∈ GB := gb_in (List.mem_append_right _ (List.mem_of_getElem? (i := 871) (by decide +kernel))) rfl
theorem ml_X8_126 : Cond.methodLink RX8 126 yX8_whyNoCopy ∈ GB := gb_in (List.mem_append_right _ (List.mem_of_getElem? (i := 872) (by decide +kernel))) rfl
theorem im_X8_whyNoCopy : Cond.instanceMethod yX8_whyNoCopy ∈ GB := gb_in (List.mem_append_right _ (List.mem_of_getElem? (i := 874) (by decide +kernel))) rfl
theorem co_X8_whyNoCopy : Cond.code yX8_whyNoCopy cX8_whyNoCopy 3 (some .int) ∈ GB := gb_in (List.mem_append_right _ (List.mem_of_getElem? (i := 875) (by decide +kernel))) rfl
theorem ml_X8_81 : Cond.methodLink RX8 81 yX8_wrapPart ∈ GB := gb_in (List.mem_append_right _ (List.mem_of_getElem? (i := 876) (by decide +kernel))) rfl
theorem im_X8_wrapPart : Cond.instanceMethod yX8_wrapPart ∈ GB := gb_in (List.mem_append_right _ (List.mem_of_getElem? (i := 878) (by decide +kernel))) rfl
theorem co_X8_wrapPart : Cond.code yX8_wrapPart cX8_wrapPart 3 (some .int) ∈ GB := gb_in (List.mem_append_right _ (List.mem_of_getElem? (i := 879) (by decide +kernel))) rfl
theorem ml_X8_129 : Cond.methodLink RX8 129 yX8_copied ∈ GB := gb_in (List.mem_append_right _ (List.mem_of_getElem? (i := 880) (by decide +kernel))) rfl
theorem im_X8_copied : Cond.instanceMethod yX8_copied ∈ GB := gb_in (List.mem_append_right _ (List.mem_of_getElem? (i := 882) (by decide +kernel))) rfl
theorem co_X8_copied : Cond.code yX8_copied cX8_copied 5 (some .int) ∈ GB := gb_in (List.mem_append_right _ (List.mem_of_getElem? (i := 883) (by decide +kernel))) rfl
theorem ml_L_34 : Cond.methodLink RL 34 yX8_renew ∈ GB := gb_in (List.mem_append_right _ (List.mem_of_getElem? (i := 884) (by decide +kernel))) rfl
theorem im_X8_renew : Cond.instanceMethod yX8_renew ∈ GB := gb_in (List.mem_append_right _ (List.mem_of_getElem? (i := 885) (by decide +kernel))) rfl
theorem se_X8_renew : Cond.selects RX8 yX8_renew yX8_renew ∈ GB := gb_in (List.mem_append_right _ (List.mem_of_getElem? (i := 886) (by decide +kernel))) rfl
theorem co_X8_renew : Cond.code yX8_renew cX8_renew 3 (some .int) ∈ GB := gb_in (List.mem_append_right _ (List.mem_of_getElem? (i := 887) (by decide +kernel))) rfl
theorem ml_X8_147 : Cond.methodLink RX8 147 yX8_whyNotRenewed ∈ GB := gb_in (List.mem_append_right _ (List.mem_of_getElem? (i := 888) (by decide +kernel))) rfl
theorem im_X8_whyNotRenewed : Cond.instanceMethod yX8_whyNotRenewed ∈ GB := gb_in (List.mem_append_right _ (List.mem_of_getElem? (i := 890) (by decide +kernel))) rfl
theorem co_X8_whyNotRenewed : Cond.code yX8_whyNotRenewed cX8_whyNotRenewed 2 (some .int) ∈ GB := gb_in (List.mem_append_right _ (List.mem_of_getElem? (i := 891) (by decide +kernel))) rfl
theorem ml_X8_135 : Cond.methodLink RX8 135 yX8_renewMakes ∈ GB := gb_in (List.mem_append_right _ (List.mem_of_getElem? (i := 892) (by decide +kernel))) rfl
theorem im_X8_renewMakes : Cond.instanceMethod yX8_renewMakes ∈ GB := gb_in (List.mem_append_right _ (List.mem_of_getElem? (i := 894) (by decide +kernel))) rfl
theorem co_X8_renewMakes : Cond.code yX8_renewMakes cX8_renewMakes 2 (some .int) ∈ GB := gb_in (List.mem_append_right _ (List.mem_of_getElem? (i := 895) (by decide +kernel))) rfl
theorem ml_X8_132 : Cond.methodLink RX8 132 yX8_hangingFrom ∈ GB := gb_in (List.mem_append_right _ (List.mem_of_getElem? (i := 896) (by decide +kernel))) rfl
theorem im_X8_hangingFrom : Cond.instanceMethod yX8_hangingFrom ∈ GB := gb_in (List.mem_append_right _ (List.mem_of_getElem? (i := 898) (by decide +kernel))) rfl
theorem co_X8_hangingFrom : Cond.code yX8_hangingFrom cX8_hangingFrom 2 (some .int) ∈ GB := gb_in (List.mem_append_right _ (List.mem_of_getElem? (i := 899) (by decide +kernel))) rfl
theorem ml_X8_54 : Cond.methodLink RX8 54 yX8_hangingKeys ∈ GB := gb_in (List.mem_append_right _ (List.mem_of_getElem? (i := 900) (by decide +kernel))) rfl
theorem im_X8_hangingKeys : Cond.instanceMethod yX8_hangingKeys ∈ GB := gb_in (List.mem_append_right _ (List.mem_of_getElem? (i := 902) (by decide +kernel))) rfl
theorem co_X8_hangingKeys : Cond.code yX8_hangingKeys cX8_hangingKeys 4 (some .int) ∈ GB := gb_in (List.mem_append_right _ (List.mem_of_getElem? (i := 903) (by decide +kernel))) rfl
theorem ml_X8_58 : Cond.methodLink RX8 58 yX8_bits ∈ GB := gb_in (List.mem_append_right _ (List.mem_of_getElem? (i := 904) (by decide +kernel))) rfl
theorem st_X8_bits : Cond.static yX8_bits ∈ GB := gb_in (List.mem_append_right _ (List.mem_of_getElem? (i := 905) (by decide +kernel))) rfl
theorem co_X8_bits : Cond.code yX8_bits cX8_bits 3 (some .int) ∈ GB := gb_in (List.mem_append_right _ (List.mem_of_getElem? (i := 906) (by decide +kernel))) rfl
theorem ml_X8_61 : Cond.methodLink RX8 61 yX8_hangingBoxes ∈ GB := gb_in (List.mem_append_right _ (List.mem_of_getElem? (i := 907) (by decide +kernel))) rfl
theorem im_X8_hangingBoxes : Cond.instanceMethod yX8_hangingBoxes ∈ GB := gb_in (List.mem_append_right _ (List.mem_of_getElem? (i := 909) (by decide +kernel))) rfl
theorem co_X8_hangingBoxes : Cond.code yX8_hangingBoxes cX8_hangingBoxes 4 (some .int) ∈ GB := gb_in (List.mem_append_right _ (List.mem_of_getElem? (i := 910) (by decide +kernel))) rfl
theorem ml_X8_84 : Cond.methodLink RX8 84 yX8_isRoot ∈ GB := gb_in (List.mem_append_right _ (List.mem_of_getElem? (i := 911) (by decide +kernel))) rfl
theorem im_X8_isRoot : Cond.instanceMethod yX8_isRoot ∈ GB := gb_in (List.mem_append_right _ (List.mem_of_getElem? (i := 913) (by decide +kernel))) rfl
theorem co_X8_isRoot : Cond.code yX8_isRoot cX8_isRoot 2 (some .boolean) ∈ GB := gb_in (List.mem_append_right _ (List.mem_of_getElem? (i := 914) (by decide +kernel))) rfl
theorem ml_X8_150 : Cond.methodLink RX8 150 yX8_renewed ∈ GB := gb_in (List.mem_append_right _ (List.mem_of_getElem? (i := 915) (by decide +kernel))) rfl
theorem im_X8_renewed : Cond.instanceMethod yX8_renewed ∈ GB := gb_in (List.mem_append_right _ (List.mem_of_getElem? (i := 917) (by decide +kernel))) rfl
theorem co_X8_renewed : Cond.code yX8_renewed cX8_renewed 3 (some .int) ∈ GB := gb_in (List.mem_append_right _ (List.mem_of_getElem? (i := 918) (by decide +kernel))) rfl
theorem ml_X8_138 : Cond.methodLink RX8 138 yX8_makesAnew ∈ GB := gb_in (List.mem_append_right _ (List.mem_of_getElem? (i := 919) (by decide +kernel))) rfl
theorem im_X8_makesAnew : Cond.instanceMethod yX8_makesAnew ∈ GB := gb_in (List.mem_append_right _ (List.mem_of_getElem? (i := 921) (by decide +kernel))) rfl
theorem co_X8_makesAnew : Cond.code yX8_makesAnew cX8_makesAnew 2 none ∈ GB := gb_in (List.mem_append_right _ (List.mem_of_getElem? (i := 922) (by decide +kernel))) rfl
theorem ml_X8_141 : Cond.methodLink RX8 141 yX8_burns ∈ GB := gb_in (List.mem_append_right _ (List.mem_of_getElem? (i := 923) (by decide +kernel))) rfl
theorem im_X8_burns : Cond.instanceMethod yX8_burns ∈ GB := gb_in (List.mem_append_right _ (List.mem_of_getElem? (i := 925) (by decide +kernel))) rfl
theorem co_X8_burns : Cond.code yX8_burns cX8_burns 5 none ∈ GB := gb_in (List.mem_append_right _ (List.mem_of_getElem? (i := 926) (by decide +kernel))) rfl
theorem ml_X8_144 : Cond.methodLink RX8 144 yX8_wrapAllUnder ∈ GB := gb_in (List.mem_append_right _ (List.mem_of_getElem? (i := 927) (by decide +kernel))) rfl
theorem im_X8_wrapAllUnder : Cond.instanceMethod yX8_wrapAllUnder ∈ GB := gb_in (List.mem_append_right _ (List.mem_of_getElem? (i := 929) (by decide +kernel))) rfl
theorem co_X8_wrapAllUnder : Cond.code yX8_wrapAllUnder cX8_wrapAllUnder 3 none ∈ GB := gb_in (List.mem_append_right _ (List.mem_of_getElem? (i := 930) (by decide +kernel))) rfl
theorem ml_L_38 : Cond.methodLink RL 38 yX8_throwKey ∈ GB := gb_in (List.mem_append_right _ (List.mem_of_getElem? (i := 931) (by decide +kernel))) rfl
theorem im_X8_throwKey : Cond.instanceMethod yX8_throwKey ∈ GB := gb_in (List.mem_append_right _ (List.mem_of_getElem? (i := 932) (by decide +kernel))) rfl
theorem se_X8_throwKey : Cond.selects RX8 yX8_throwKey yX8_throwKey ∈ GB := gb_in (List.mem_append_right _ (List.mem_of_getElem? (i := 933) (by decide +kernel))) rfl
theorem co_X8_throwKey : Cond.code yX8_throwKey cX8_throwKey 3 (some .int) ∈ GB := gb_in (List.mem_append_right _ (List.mem_of_getElem? (i := 934) (by decide +kernel))) rfl
theorem ml_X8_171 : Cond.methodLink RX8 171 yX8_whyKeyNotThrown ∈ GB := gb_in (List.mem_append_right _ (List.mem_of_getElem? (i := 935) (by decide +kernel))) rfl
theorem im_X8_whyKeyNotThrown : Cond.instanceMethod yX8_whyKeyNotThrown ∈ GB := gb_in (List.mem_append_right _ (List.mem_of_getElem? (i := 937) (by decide +kernel))) rfl
theorem co_X8_whyKeyNotThrown : Cond.code yX8_whyKeyNotThrown cX8_whyKeyNotThrown 2 (some .int) ∈ GB := gb_in (List.mem_append_right _ (List.mem_of_getElem? (i := 938) (by decide +kernel))) rfl
theorem ml_X8_162 : Cond.methodLink RX8 162 yX8_whyNotThrown ∈ GB := gb_in (List.mem_append_right _ (List.mem_of_getElem? (i := 939) (by decide +kernel))) rfl
theorem im_X8_whyNotThrown : Cond.instanceMethod yX8_whyNotThrown ∈ GB := gb_in (List.mem_append_right _ (List.mem_of_getElem? (i := 941) (by decide +kernel))) rfl
theorem co_X8_whyNotThrown : Cond.code yX8_whyNotThrown cX8_whyNotThrown 4 (some .int) ∈ GB := gb_in (List.mem_append_right _ (List.mem_of_getElem? (i := 942) (by decide +kernel))) rfl
theorem ml_X8_153 : Cond.methodLink RX8 153 yX8_throwMakes ∈ GB := gb_in (List.mem_append_right _ (List.mem_of_getElem? (i := 943) (by decide +kernel))) rfl
theorem im_X8_throwMakes : Cond.instanceMethod yX8_throwMakes ∈ GB := gb_in (List.mem_append_right _ (List.mem_of_getElem? (i := 945) (by decide +kernel))) rfl
theorem co_X8_throwMakes : Cond.code yX8_throwMakes cX8_throwMakes 6 (some .int) ∈ GB := gb_in (List.mem_append_right _ (List.mem_of_getElem? (i := 946) (by decide +kernel))) rfl
theorem ml_X8_174 : Cond.methodLink RX8 174 yX8_keyThrown ∈ GB := gb_in (List.mem_append_right _ (List.mem_of_getElem? (i := 947) (by decide +kernel))) rfl
theorem im_X8_keyThrown : Cond.instanceMethod yX8_keyThrown ∈ GB := gb_in (List.mem_append_right _ (List.mem_of_getElem? (i := 949) (by decide +kernel))) rfl
theorem co_X8_keyThrown : Cond.code yX8_keyThrown cX8_keyThrown 4 (some .int) ∈ GB := gb_in (List.mem_append_right _ (List.mem_of_getElem? (i := 950) (by decide +kernel))) rfl
theorem ml_X8_165 : Cond.methodLink RX8 165 yX8_isUnder ∈ GB := gb_in (List.mem_append_right _ (List.mem_of_getElem? (i := 951) (by decide +kernel))) rfl
theorem im_X8_isUnder : Cond.instanceMethod yX8_isUnder ∈ GB := gb_in (List.mem_append_right _ (List.mem_of_getElem? (i := 953) (by decide +kernel))) rfl
theorem co_X8_isUnder : Cond.code yX8_isUnder cX8_isUnder 4 (some .boolean) ∈ GB := gb_in (List.mem_append_right _ (List.mem_of_getElem? (i := 954) (by decide +kernel))) rfl
theorem ml_X8_168 : Cond.methodLink RX8 168 yX8_makesAboveAnew ∈ GB := gb_in (List.mem_append_right _ (List.mem_of_getElem? (i := 955) (by decide +kernel))) rfl
theorem im_X8_makesAboveAnew : Cond.instanceMethod yX8_makesAboveAnew ∈ GB := gb_in (List.mem_append_right _ (List.mem_of_getElem? (i := 957) (by decide +kernel))) rfl
theorem co_X8_makesAboveAnew : Cond.code yX8_makesAboveAnew cX8_makesAboveAnew 3 none ∈ GB := gb_in (List.mem_append_right _ (List.mem_of_getElem? (i := 958) (by decide +kernel))) rfl
theorem ml_X8_156 : Cond.methodLink RX8 156 yX8_above ∈ GB := gb_in (List.mem_append_right _ (List.mem_of_getElem? (i := 959) (by decide +kernel))) rfl
theorem im_X8_above : Cond.instanceMethod yX8_above ∈ GB := gb_in (List.mem_append_right _ (List.mem_of_getElem? (i := 961) (by decide +kernel))) rfl
theorem co_X8_above : Cond.code yX8_above cX8_above 4 (some .int) ∈ GB := gb_in (List.mem_append_right _ (List.mem_of_getElem? (i := 962) (by decide +kernel))) rfl
theorem ml_X8_159 : Cond.methodLink RX8 159 yX8_higher ∈ GB := gb_in (List.mem_append_right _ (List.mem_of_getElem? (i := 963) (by decide +kernel))) rfl
theorem im_X8_higher : Cond.instanceMethod yX8_higher ∈ GB := gb_in (List.mem_append_right _ (List.mem_of_getElem? (i := 965) (by decide +kernel))) rfl
theorem co_X8_higher : Cond.code yX8_higher cX8_higher 5 (some .int) ∈ GB := gb_in (List.mem_append_right _ (List.mem_of_getElem? (i := 966) (by decide +kernel))) rfl
theorem ml_L_42 : Cond.methodLink RL 42 yX8_throwBox ∈ GB := gb_in (List.mem_append_right _ (List.mem_of_getElem? (i := 967) (by decide +kernel))) rfl
theorem im_X8_throwBox : Cond.instanceMethod yX8_throwBox ∈ GB := gb_in (List.mem_append_right _ (List.mem_of_getElem? (i := 968) (by decide +kernel))) rfl
theorem se_X8_throwBox : Cond.selects RX8 yX8_throwBox yX8_throwBox ∈ GB := gb_in (List.mem_append_right _ (List.mem_of_getElem? (i := 969) (by decide +kernel))) rfl
theorem co_X8_throwBox : Cond.code yX8_throwBox cX8_throwBox 3 (some .int) ∈ GB := gb_in (List.mem_append_right _ (List.mem_of_getElem? (i := 970) (by decide +kernel))) rfl
theorem ml_X8_180 : Cond.methodLink RX8 180 yX8_whyBoxNotThrown ∈ GB := gb_in (List.mem_append_right _ (List.mem_of_getElem? (i := 971) (by decide +kernel))) rfl
theorem im_X8_whyBoxNotThrown : Cond.instanceMethod yX8_whyBoxNotThrown ∈ GB := gb_in (List.mem_append_right _ (List.mem_of_getElem? (i := 973) (by decide +kernel))) rfl
theorem co_X8_whyBoxNotThrown : Cond.code yX8_whyBoxNotThrown cX8_whyBoxNotThrown 2 (some .int) ∈ GB := gb_in (List.mem_append_right _ (List.mem_of_getElem? (i := 974) (by decide +kernel))) rfl
theorem ml_X8_177 : Cond.methodLink RX8 177 yX8_isLiveBox ∈ GB := gb_in (List.mem_append_right _ (List.mem_of_getElem? (i := 975) (by decide +kernel))) rfl
theorem im_X8_isLiveBox : Cond.instanceMethod yX8_isLiveBox ∈ GB := gb_in (List.mem_append_right _ (List.mem_of_getElem? (i := 977) (by decide +kernel))) rfl
theorem co_X8_isLiveBox : Cond.code yX8_isLiveBox cX8_isLiveBox 2 (some .boolean) ∈ GB := gb_in (List.mem_append_right _ (List.mem_of_getElem? (i := 978) (by decide +kernel))) rfl
theorem ml_X8_48 : Cond.methodLink RX8 48 yX8_isBox ∈ GB := gb_in (List.mem_append_right _ (List.mem_of_getElem? (i := 979) (by decide +kernel))) rfl
theorem im_X8_isBox : Cond.instanceMethod yX8_isBox ∈ GB := gb_in (List.mem_append_right _ (List.mem_of_getElem? (i := 981) (by decide +kernel))) rfl
theorem co_X8_isBox : Cond.code yX8_isBox cX8_isBox 2 (some .boolean) ∈ GB := gb_in (List.mem_append_right _ (List.mem_of_getElem? (i := 982) (by decide +kernel))) rfl
theorem ml_X8_183 : Cond.methodLink RX8 183 yX8_boxThrown ∈ GB := gb_in (List.mem_append_right _ (List.mem_of_getElem? (i := 983) (by decide +kernel))) rfl
theorem im_X8_boxThrown : Cond.instanceMethod yX8_boxThrown ∈ GB := gb_in (List.mem_append_right _ (List.mem_of_getElem? (i := 985) (by decide +kernel))) rfl
theorem co_X8_boxThrown : Cond.code yX8_boxThrown cX8_boxThrown 3 (some .int) ∈ GB := gb_in (List.mem_append_right _ (List.mem_of_getElem? (i := 986) (by decide +kernel))) rfl
theorem ml_L_46 : Cond.methodLink RL 46 yX8_ofKey ∈ GB := gb_in (List.mem_append_right _ (List.mem_of_getElem? (i := 987) (by decide +kernel))) rfl
theorem im_X8_ofKey : Cond.instanceMethod yX8_ofKey ∈ GB := gb_in (List.mem_append_right _ (List.mem_of_getElem? (i := 988) (by decide +kernel))) rfl
theorem se_X8_ofKey : Cond.selects RX8 yX8_ofKey yX8_ofKey ∈ GB := gb_in (List.mem_append_right _ (List.mem_of_getElem? (i := 989) (by decide +kernel))) rfl
theorem co_X8_ofKey : Cond.code yX8_ofKey cX8_ofKey 3 (some .int) ∈ GB := gb_in (List.mem_append_right _ (List.mem_of_getElem? (i := 990) (by decide +kernel))) rfl
theorem ml_L_50 : Cond.methodLink RL 50 yX8_ofBox ∈ GB := gb_in (List.mem_append_right _ (List.mem_of_getElem? (i := 991) (by decide +kernel))) rfl
theorem im_X8_ofBox : Cond.instanceMethod yX8_ofBox ∈ GB := gb_in (List.mem_append_right _ (List.mem_of_getElem? (i := 992) (by decide +kernel))) rfl
theorem se_X8_ofBox : Cond.selects RX8 yX8_ofBox yX8_ofBox ∈ GB := gb_in (List.mem_append_right _ (List.mem_of_getElem? (i := 993) (by decide +kernel))) rfl
theorem co_X8_ofBox : Cond.code yX8_ofBox cX8_ofBox 3 (some .int) ∈ GB := gb_in (List.mem_append_right _ (List.mem_of_getElem? (i := 994) (by decide +kernel))) rfl
theorem ml_X8_186 : Cond.methodLink RX8 186 yX8_openWith ∈ GB := gb_in (List.mem_append_right _ (List.mem_of_getElem? (i := 995) (by decide +kernel))) rfl
theorem im_X8_openWith : Cond.instanceMethod yX8_openWith ∈ GB := gb_in (List.mem_append_right _ (List.mem_of_getElem? (i := 997) (by decide +kernel))) rfl
theorem co_X8_openWith : Cond.code yX8_openWith cX8_openWith 2 (some .int) ∈ GB := gb_in (List.mem_append_right _ (List.mem_of_getElem? (i := 998) (by decide +kernel))) rfl
theorem ml_X8_95 : Cond.methodLink RX8 95 yX8_open ∈ GB := gb_in (List.mem_append_right _ (List.mem_of_getElem? (i := 999) (by decide +kernel))) rfl
theorem im_X8_open : Cond.instanceMethod yX8_open ∈ GB := gb_in (List.mem_append_right _ (List.mem_of_getElem? (i := 1001) (by decide +kernel))) rfl
theorem co_X8_open : Cond.code yX8_open cX8_open 7 none ∈ GB := gb_in (List.mem_append_right _ (List.mem_of_getElem? (i := 1002) (by decide +kernel))) rfl
theorem ml_X8_91 : Cond.methodLink RX8 91 yX8_isHad ∈ GB := gb_in (List.mem_append_right _ (List.mem_of_getElem? (i := 1003) (by decide +kernel))) rfl
theorem im_X8_isHad : Cond.instanceMethod yX8_isHad ∈ GB := gb_in (List.mem_append_right _ (List.mem_of_getElem? (i := 1005) (by decide +kernel))) rfl
theorem co_X8_isHad : Cond.code yX8_isHad cX8_isHad 7 (some .boolean) ∈ GB := gb_in (List.mem_append_right _ (List.mem_of_getElem? (i := 1006) (by decide +kernel))) rfl
theorem ml_X8_87 : Cond.methodLink RX8 87 yX8_isInSafe ∈ GB := gb_in (List.mem_append_right _ (List.mem_of_getElem? (i := 1007) (by decide +kernel))) rfl
theorem im_X8_isInSafe : Cond.instanceMethod yX8_isInSafe ∈ GB := gb_in (List.mem_append_right _ (List.mem_of_getElem? (i := 1009) (by decide +kernel))) rfl
theorem co_X8_isInSafe : Cond.code yX8_isInSafe cX8_isInSafe 3 (some .boolean) ∈ GB := gb_in (List.mem_append_right _ (List.mem_of_getElem? (i := 1010) (by decide +kernel))) rfl
theorem ml_X8_98 : Cond.methodLink RX8 98 yX8_openBoxes ∈ GB := gb_in (List.mem_append_right _ (List.mem_of_getElem? (i := 1011) (by decide +kernel))) rfl
theorem im_X8_openBoxes : Cond.instanceMethod yX8_openBoxes ∈ GB := gb_in (List.mem_append_right _ (List.mem_of_getElem? (i := 1013) (by decide +kernel))) rfl
theorem co_X8_openBoxes : Cond.code yX8_openBoxes cX8_openBoxes 3 (some .int) ∈ GB := gb_in (List.mem_append_right _ (List.mem_of_getElem? (i := 1014) (by decide +kernel))) rfl
theorem ml_L_54 : Cond.methodLink RL 54 yX8_wrap ∈ GB := gb_in (List.mem_append_right _ (List.mem_of_getElem? (i := 1015) (by decide +kernel))) rfl
theorem im_X8_wrap : Cond.instanceMethod yX8_wrap ∈ GB := gb_in (List.mem_append_right _ (List.mem_of_getElem? (i := 1016) (by decide +kernel))) rfl
theorem se_X8_wrap : Cond.selects RX8 yX8_wrap yX8_wrap ∈ GB := gb_in (List.mem_append_right _ (List.mem_of_getElem? (i := 1017) (by decide +kernel))) rfl
theorem co_X8_wrap : Cond.code yX8_wrap cX8_wrap 3 (some .int) ∈ GB := gb_in (List.mem_append_right _ (List.mem_of_getElem? (i := 1018) (by decide +kernel))) rfl
theorem ml_L_58 : Cond.methodLink RL 58 yX8_count ∈ GB := gb_in (List.mem_append_right _ (List.mem_of_getElem? (i := 1019) (by decide +kernel))) rfl
theorem im_X8_count : Cond.instanceMethod yX8_count ∈ GB := gb_in (List.mem_append_right _ (List.mem_of_getElem? (i := 1020) (by decide +kernel))) rfl
theorem se_X8_count : Cond.selects RX8 yX8_count yX8_count ∈ GB := gb_in (List.mem_append_right _ (List.mem_of_getElem? (i := 1021) (by decide +kernel))) rfl
theorem co_X8_count : Cond.code yX8_count cX8_count 2 (some .int) ∈ GB := gb_in (List.mem_append_right _ (List.mem_of_getElem? (i := 1022) (by decide +kernel))) rfl
theorem ml_X8_189 : Cond.methodLink RX8 189 yX8_liveKeys ∈ GB := gb_in (List.mem_append_right _ (List.mem_of_getElem? (i := 1023) (by decide +kernel))) rfl
theorem im_X8_liveKeys : Cond.instanceMethod yX8_liveKeys ∈ GB := gb_in (List.mem_append_right _ (List.mem_of_getElem? (i := 1025) (by decide +kernel))) rfl
theorem co_X8_liveKeys : Cond.code yX8_liveKeys cX8_liveKeys 3 (some .int) ∈ GB := gb_in (List.mem_append_right _ (List.mem_of_getElem? (i := 1026) (by decide +kernel))) rfl
theorem ml_X8_192 : Cond.methodLink RX8 192 yX8_liveBoxes ∈ GB := gb_in (List.mem_append_right _ (List.mem_of_getElem? (i := 1027) (by decide +kernel))) rfl
theorem im_X8_liveBoxes : Cond.instanceMethod yX8_liveBoxes ∈ GB := gb_in (List.mem_append_right _ (List.mem_of_getElem? (i := 1029) (by decide +kernel))) rfl
theorem co_X8_liveBoxes : Cond.code yX8_liveBoxes cX8_liveBoxes 3 (some .int) ∈ GB := gb_in (List.mem_append_right _ (List.mem_of_getElem? (i := 1030) (by decide +kernel))) rfl
theorem ml_X8_195 : Cond.methodLink RX8 195 yX8_inHouse ∈ GB := gb_in (List.mem_append_right _ (List.mem_of_getElem? (i := 1031) (by decide +kernel))) rfl
theorem im_X8_inHouse : Cond.instanceMethod yX8_inHouse ∈ GB := gb_in (List.mem_append_right _ (List.mem_of_getElem? (i := 1033) (by decide +kernel))) rfl
theorem co_X8_inHouse : Cond.code yX8_inHouse cX8_inHouse 3 (some .int) ∈ GB := gb_in (List.mem_append_right _ (List.mem_of_getElem? (i := 1034) (by decide +kernel))) rfl
theorem ml_X8_198 : Cond.methodLink RX8 198 yX8_outside ∈ GB := gb_in (List.mem_append_right _ (List.mem_of_getElem? (i := 1035) (by decide +kernel))) rfl
theorem im_X8_outside : Cond.instanceMethod yX8_outside ∈ GB := gb_in (List.mem_append_right _ (List.mem_of_getElem? (i := 1037) (by decide +kernel))) rfl
theorem co_X8_outside : Cond.code yX8_outside cX8_outside 3 (some .int) ∈ GB := gb_in (List.mem_append_right _ (List.mem_of_getElem? (i := 1038) (by decide +kernel))) rfl
theorem ml_X8_201 : Cond.methodLink RX8 201 yX8_wornKeys ∈ GB := gb_in (List.mem_append_right _ (List.mem_of_getElem? (i := 1039) (by decide +kernel))) rfl
theorem im_X8_wornKeys : Cond.instanceMethod yX8_wornKeys ∈ GB := gb_in (List.mem_append_right _ (List.mem_of_getElem? (i := 1041) (by decide +kernel))) rfl
theorem co_X8_wornKeys : Cond.code yX8_wornKeys cX8_wornKeys 3 (some .int) ∈ GB := gb_in (List.mem_append_right _ (List.mem_of_getElem? (i := 1042) (by decide +kernel))) rfl
theorem ml_L_62 : Cond.methodLink RL 62 yX8_canOpen ∈ GB := gb_in (List.mem_append_right _ (List.mem_of_getElem? (i := 1043) (by decide +kernel))) rfl
theorem im_X8_canOpen : Cond.instanceMethod yX8_canOpen ∈ GB := gb_in (List.mem_append_right _ (List.mem_of_getElem? (i := 1044) (by decide +kernel))) rfl
theorem se_X8_canOpen : Cond.selects RX8 yX8_canOpen yX8_canOpen ∈ GB := gb_in (List.mem_append_right _ (List.mem_of_getElem? (i := 1045) (by decide +kernel))) rfl
theorem co_X8_canOpen : Cond.code yX8_canOpen cX8_canOpen 3 (some .int) ∈ GB := gb_in (List.mem_append_right _ (List.mem_of_getElem? (i := 1046) (by decide +kernel))) rfl
theorem ml_L_67 : Cond.methodLink RL 67 yX8_canHave ∈ GB := gb_in (List.mem_append_right _ (List.mem_of_getElem? (i := 1047) (by decide +kernel))) rfl
theorem im_X8_canHave : Cond.instanceMethod yX8_canHave ∈ GB := gb_in (List.mem_append_right _ (List.mem_of_getElem? (i := 1048) (by decide +kernel))) rfl
theorem se_X8_canHave : Cond.selects RX8 yX8_canHave yX8_canHave ∈ GB := gb_in (List.mem_append_right _ (List.mem_of_getElem? (i := 1049) (by decide +kernel))) rfl
theorem co_X8_canHave : Cond.code yX8_canHave cX8_canHave 4 (some .int) ∈ GB := gb_in (List.mem_append_right _ (List.mem_of_getElem? (i := 1050) (by decide +kernel))) rfl
theorem ml_L_71 : Cond.methodLink RL 71 yX8_way ∈ GB := gb_in (List.mem_append_right _ (List.mem_of_getElem? (i := 1051) (by decide +kernel))) rfl
theorem im_X8_way : Cond.instanceMethod yX8_way ∈ GB := gb_in (List.mem_append_right _ (List.mem_of_getElem? (i := 1052) (by decide +kernel))) rfl
theorem se_X8_way : Cond.selects RX8 yX8_way yX8_way ∈ GB := gb_in (List.mem_append_right _ (List.mem_of_getElem? (i := 1053) (by decide +kernel))) rfl
theorem co_X8_way : Cond.code yX8_way cX8_way 6 (some .int) ∈ GB := gb_in (List.mem_append_right _ (List.mem_of_getElem? (i := 1054) (by decide +kernel))) rfl
theorem ml_X8_207 : Cond.methodLink RX8 207 yX8_houseWrap ∈ GB := gb_in (List.mem_append_right _ (List.mem_of_getElem? (i := 1055) (by decide +kernel))) rfl
theorem im_X8_houseWrap : Cond.instanceMethod yX8_houseWrap ∈ GB := gb_in (List.mem_append_right _ (List.mem_of_getElem? (i := 1057) (by decide +kernel))) rfl
theorem co_X8_houseWrap : Cond.code yX8_houseWrap cX8_houseWrap 5 (some .int) ∈ GB := gb_in (List.mem_append_right _ (List.mem_of_getElem? (i := 1058) (by decide +kernel))) rfl
theorem ml_L_75 : Cond.methodLink RL 75 yX8_leaks ∈ GB := gb_in (List.mem_append_right _ (List.mem_of_getElem? (i := 1059) (by decide +kernel))) rfl
theorem im_X8_leaks : Cond.instanceMethod yX8_leaks ∈ GB := gb_in (List.mem_append_right _ (List.mem_of_getElem? (i := 1060) (by decide +kernel))) rfl
theorem se_X8_leaks : Cond.selects RX8 yX8_leaks yX8_leaks ∈ GB := gb_in (List.mem_append_right _ (List.mem_of_getElem? (i := 1061) (by decide +kernel))) rfl
theorem co_X8_leaks : Cond.code yX8_leaks cX8_leaks 4 (some .int) ∈ GB := gb_in (List.mem_append_right _ (List.mem_of_getElem? (i := 1062) (by decide +kernel))) rfl
theorem ml_L_79 : Cond.methodLink RL 79 yX8_lostBy ∈ GB := gb_in (List.mem_append_right _ (List.mem_of_getElem? (i := 1063) (by decide +kernel))) rfl
theorem im_X8_lostBy : Cond.instanceMethod yX8_lostBy ∈ GB := gb_in (List.mem_append_right _ (List.mem_of_getElem? (i := 1064) (by decide +kernel))) rfl
theorem se_X8_lostBy : Cond.selects RX8 yX8_lostBy yX8_lostBy ∈ GB := gb_in (List.mem_append_right _ (List.mem_of_getElem? (i := 1065) (by decide +kernel))) rfl
theorem co_X8_lostBy : Cond.code yX8_lostBy cX8_lostBy 4 (some .int) ∈ GB := gb_in (List.mem_append_right _ (List.mem_of_getElem? (i := 1066) (by decide +kernel))) rfl
theorem ml_L_83 : Cond.methodLink RL 83 yX8_throwingMakes ∈ GB := gb_in (List.mem_append_right _ (List.mem_of_getElem? (i := 1067) (by decide +kernel))) rfl
theorem im_X8_throwingMakes : Cond.instanceMethod yX8_throwingMakes ∈ GB := gb_in (List.mem_append_right _ (List.mem_of_getElem? (i := 1068) (by decide +kernel))) rfl
theorem se_X8_throwingMakes : Cond.selects RX8 yX8_throwingMakes yX8_throwingMakes ∈ GB := gb_in (List.mem_append_right _ (List.mem_of_getElem? (i := 1069) (by decide +kernel))) rfl
theorem co_X8_throwingMakes : Cond.code yX8_throwingMakes cX8_throwingMakes 3 (some .int) ∈ GB := gb_in (List.mem_append_right _ (List.mem_of_getElem? (i := 1070) (by decide +kernel))) rfl
theorem ml_L_87 : Cond.methodLink RL 87 yX8_mostWorn ∈ GB := gb_in (List.mem_append_right _ (List.mem_of_getElem? (i := 1071) (by decide +kernel))) rfl
theorem im_X8_mostWorn : Cond.instanceMethod yX8_mostWorn ∈ GB := gb_in (List.mem_append_right _ (List.mem_of_getElem? (i := 1072) (by decide +kernel))) rfl
theorem se_X8_mostWorn : Cond.selects RX8 yX8_mostWorn yX8_mostWorn ∈ GB := gb_in (List.mem_append_right _ (List.mem_of_getElem? (i := 1073) (by decide +kernel))) rfl
theorem co_X8_mostWorn : Cond.code yX8_mostWorn cX8_mostWorn 4 (some .int) ∈ GB := gb_in (List.mem_append_right _ (List.mem_of_getElem? (i := 1074) (by decide +kernel))) rfl
theorem ml_X8_210 : Cond.methodLink RX8 210 yX8_leftOf ∈ GB := gb_in (List.mem_append_right _ (List.mem_of_getElem? (i := 1075) (by decide +kernel))) rfl
theorem im_X8_leftOf : Cond.instanceMethod yX8_leftOf ∈ GB := gb_in (List.mem_append_right _ (List.mem_of_getElem? (i := 1077) (by decide +kernel))) rfl
theorem co_X8_leftOf : Cond.code yX8_leftOf cX8_leftOf 3 (some .int) ∈ GB := gb_in (List.mem_append_right _ (List.mem_of_getElem? (i := 1078) (by decide +kernel))) rfl
theorem ml_L_94 : Cond.methodLink RL 94 yX8_put ∈ GB := gb_in (List.mem_append_right _ (List.mem_of_getElem? (i := 1079) (by decide +kernel))) rfl
theorem im_X8_put : Cond.instanceMethod yX8_put ∈ GB := gb_in (List.mem_append_right _ (List.mem_of_getElem? (i := 1080) (by decide +kernel))) rfl
theorem se_X8_put : Cond.selects RX8 yX8_put yX8_put ∈ GB := gb_in (List.mem_append_right _ (List.mem_of_getElem? (i := 1081) (by decide +kernel))) rfl
theorem co_X8_put : Cond.code yX8_put cX8_put 8 (some .int) ∈ GB := gb_in (List.mem_append_right _ (List.mem_of_getElem? (i := 1082) (by decide +kernel))) rfl
theorem k_X8_213 : Cond.constantLong RX8 213 255 ∈ GB := gb_in (List.mem_append_right _ (List.mem_of_getElem? (i := 1083) (by decide +kernel))) rfl
theorem ml_L_99 : Cond.methodLink RL 99 yX8_wipe ∈ GB := gb_in (List.mem_append_right _ (List.mem_of_getElem? (i := 1084) (by decide +kernel))) rfl
theorem im_X8_wipe : Cond.instanceMethod yX8_wipe ∈ GB := gb_in (List.mem_append_right _ (List.mem_of_getElem? (i := 1085) (by decide +kernel))) rfl
theorem se_X8_wipe : Cond.selects RX8 yX8_wipe yX8_wipe ∈ GB := gb_in (List.mem_append_right _ (List.mem_of_getElem? (i := 1086) (by decide +kernel))) rfl
theorem co_X8_wipe : Cond.code yX8_wipe cX8_wipe 2 (some .int) ∈ GB := gb_in (List.mem_append_right _ (List.mem_of_getElem? (i := 1087) (by decide +kernel))) rfl
theorem ml_L_103 : Cond.methodLink RL 103 yX8_fault ∈ GB := gb_in (List.mem_append_right _ (List.mem_of_getElem? (i := 1088) (by decide +kernel))) rfl
theorem im_X8_fault : Cond.instanceMethod yX8_fault ∈ GB := gb_in (List.mem_append_right _ (List.mem_of_getElem? (i := 1089) (by decide +kernel))) rfl
theorem se_X8_fault : Cond.selects RX8 yX8_fault yX8_fault ∈ GB := gb_in (List.mem_append_right _ (List.mem_of_getElem? (i := 1090) (by decide +kernel))) rfl
theorem co_X8_fault : Cond.code yX8_fault cX8_fault 1 (some .int) ∈ GB := gb_in (List.mem_append_right _ (List.mem_of_getElem? (i := 1091) (by decide +kernel))) rfl
theorem ml_X8_243 : Cond.methodLink RX8 243 yX8_findFault ∈ GB := gb_in (List.mem_append_right _ (List.mem_of_getElem? (i := 1092) (by decide +kernel))) rfl
theorem im_X8_findFault : Cond.instanceMethod yX8_findFault ∈ GB := gb_in (List.mem_append_right _ (List.mem_of_getElem? (i := 1094) (by decide +kernel))) rfl
theorem co_X8_findFault : Cond.code yX8_findFault cX8_findFault 1 (some .int) ∈ GB := gb_in (List.mem_append_right _ (List.mem_of_getElem? (i := 1095) (by decide +kernel))) rfl
theorem ml_X8_239 : Cond.methodLink RX8 239 yX8_readsOrder ∈ GB := gb_in (List.mem_append_right _ (List.mem_of_getElem? (i := 1096) (by decide +kernel))) rfl
theorem im_X8_readsOrder : Cond.instanceMethod yX8_readsOrder ∈ GB := gb_in (List.mem_append_right _ (List.mem_of_getElem? (i := 1098) (by decide +kernel))) rfl
theorem co_X8_readsOrder : Cond.code yX8_readsOrder cX8_readsOrder 1 (some .boolean) ∈ GB := gb_in (List.mem_append_right _ (List.mem_of_getElem? (i := 1099) (by decide +kernel))) rfl
theorem ml_X8_218 : Cond.methodLink RX8 218 yX8_character ∈ GB := gb_in (List.mem_append_right _ (List.mem_of_getElem? (i := 1100) (by decide +kernel))) rfl
theorem im_X8_character : Cond.instanceMethod yX8_character ∈ GB := gb_in (List.mem_append_right _ (List.mem_of_getElem? (i := 1102) (by decide +kernel))) rfl
theorem co_X8_character : Cond.code yX8_character cX8_character 2 (some .int) ∈ GB := gb_in (List.mem_append_right _ (List.mem_of_getElem? (i := 1103) (by decide +kernel))) rfl
theorem ml_X8_224 : Cond.methodLink RX8 224 yX8_isOrder ∈ GB := gb_in (List.mem_append_right _ (List.mem_of_getElem? (i := 1104) (by decide +kernel))) rfl
theorem st_X8_isOrder : Cond.static yX8_isOrder ∈ GB := gb_in (List.mem_append_right _ (List.mem_of_getElem? (i := 1105) (by decide +kernel))) rfl
theorem co_X8_isOrder : Cond.code yX8_isOrder cX8_isOrder 1 (some .boolean) ∈ GB := gb_in (List.mem_append_right _ (List.mem_of_getElem? (i := 1106) (by decide +kernel))) rfl
theorem ml_X8_227 : Cond.methodLink RX8 227 yX8_takes ∈ GB := gb_in (List.mem_append_right _ (List.mem_of_getElem? (i := 1107) (by decide +kernel))) rfl
theorem im_X8_takes : Cond.instanceMethod yX8_takes ∈ GB := gb_in (List.mem_append_right _ (List.mem_of_getElem? (i := 1109) (by decide +kernel))) rfl
theorem co_X8_takes : Cond.code yX8_takes cX8_takes 3 (some .boolean) ∈ GB := gb_in (List.mem_append_right _ (List.mem_of_getElem? (i := 1110) (by decide +kernel))) rfl
theorem ml_X8_233 : Cond.methodLink RX8 233 yX8_takeNumber ∈ GB := gb_in (List.mem_append_right _ (List.mem_of_getElem? (i := 1111) (by decide +kernel))) rfl
theorem im_X8_takeNumber : Cond.instanceMethod yX8_takeNumber ∈ GB := gb_in (List.mem_append_right _ (List.mem_of_getElem? (i := 1113) (by decide +kernel))) rfl
theorem co_X8_takeNumber : Cond.code yX8_takeNumber cX8_takeNumber 3 (some .int) ∈ GB := gb_in (List.mem_append_right _ (List.mem_of_getElem? (i := 1114) (by decide +kernel))) rfl
theorem ml_L_107 : Cond.methodLink RL 107 yX8_carryOut ∈ GB := gb_in (List.mem_append_right _ (List.mem_of_getElem? (i := 1115) (by decide +kernel))) rfl
theorem im_X8_carryOut : Cond.instanceMethod yX8_carryOut ∈ GB := gb_in (List.mem_append_right _ (List.mem_of_getElem? (i := 1116) (by decide +kernel))) rfl
theorem se_X8_carryOut : Cond.selects RX8 yX8_carryOut yX8_carryOut ∈ GB := gb_in (List.mem_append_right _ (List.mem_of_getElem? (i := 1117) (by decide +kernel))) rfl
theorem co_X8_carryOut : Cond.code yX8_carryOut cX8_carryOut 3 (some .int) ∈ GB := gb_in (List.mem_append_right _ (List.mem_of_getElem? (i := 1118) (by decide +kernel))) rfl
theorem ml_X8_246 : Cond.methodLink RX8 246 yX8_whyNotDone ∈ GB := gb_in (List.mem_append_right _ (List.mem_of_getElem? (i := 1119) (by decide +kernel))) rfl
theorem im_X8_whyNotDone : Cond.instanceMethod yX8_whyNotDone ∈ GB := gb_in (List.mem_append_right _ (List.mem_of_getElem? (i := 1121) (by decide +kernel))) rfl
theorem co_X8_whyNotDone : Cond.code yX8_whyNotDone cX8_whyNotDone 1 (some .int) ∈ GB := gb_in (List.mem_append_right _ (List.mem_of_getElem? (i := 1122) (by decide +kernel))) rfl
theorem ml_X8_249 : Cond.methodLink RX8 249 yX8_does ∈ GB := gb_in (List.mem_append_right _ (List.mem_of_getElem? (i := 1123) (by decide +kernel))) rfl
theorem im_X8_does : Cond.instanceMethod yX8_does ∈ GB := gb_in (List.mem_append_right _ (List.mem_of_getElem? (i := 1125) (by decide +kernel))) rfl
theorem co_X8_does : Cond.code yX8_does cX8_does 1 none ∈ GB := gb_in (List.mem_append_right _ (List.mem_of_getElem? (i := 1126) (by decide +kernel))) rfl
theorem ml_L_111 : Cond.methodLink RL 111 yX8_undo ∈ GB := gb_in (List.mem_append_right _ (List.mem_of_getElem? (i := 1127) (by decide +kernel))) rfl
theorem im_X8_undo : Cond.instanceMethod yX8_undo ∈ GB := gb_in (List.mem_append_right _ (List.mem_of_getElem? (i := 1128) (by decide +kernel))) rfl
theorem se_X8_undo : Cond.selects RX8 yX8_undo yX8_undo ∈ GB := gb_in (List.mem_append_right _ (List.mem_of_getElem? (i := 1129) (by decide +kernel))) rfl
theorem co_X8_undo : Cond.code yX8_undo cX8_undo 1 (some .int) ∈ GB := gb_in (List.mem_append_right _ (List.mem_of_getElem? (i := 1130) (by decide +kernel))) rfl
theorem ml_L_115 : Cond.methodLink RL 115 yX8_save ∈ GB := gb_in (List.mem_append_right _ (List.mem_of_getElem? (i := 1131) (by decide +kernel))) rfl
theorem im_X8_save : Cond.instanceMethod yX8_save ∈ GB := gb_in (List.mem_append_right _ (List.mem_of_getElem? (i := 1132) (by decide +kernel))) rfl
theorem se_X8_save : Cond.selects RX8 yX8_save yX8_save ∈ GB := gb_in (List.mem_append_right _ (List.mem_of_getElem? (i := 1133) (by decide +kernel))) rfl
theorem co_X8_save : Cond.code yX8_save cX8_save 2 (some .int) ∈ GB := gb_in (List.mem_append_right _ (List.mem_of_getElem? (i := 1134) (by decide +kernel))) rfl
theorem ml_L_119 : Cond.methodLink RL 119 yX8_restore ∈ GB := gb_in (List.mem_append_right _ (List.mem_of_getElem? (i := 1135) (by decide +kernel))) rfl
theorem im_X8_restore : Cond.instanceMethod yX8_restore ∈ GB := gb_in (List.mem_append_right _ (List.mem_of_getElem? (i := 1136) (by decide +kernel))) rfl
theorem se_X8_restore : Cond.selects RX8 yX8_restore yX8_restore ∈ GB := gb_in (List.mem_append_right _ (List.mem_of_getElem? (i := 1137) (by decide +kernel))) rfl
theorem co_X8_restore : Cond.code yX8_restore cX8_restore 2 (some .int) ∈ GB := gb_in (List.mem_append_right _ (List.mem_of_getElem? (i := 1138) (by decide +kernel))) rfl
theorem k_L_88 : Cond.constantLong RL 88 4294967295 ∈ GB := gb_in (List.mem_append_right _ (List.mem_of_getElem? (i := 1139) (by decide +kernel))) rfl
theorem se_X0_stateAt : Cond.selects RX0 yX0_stateAt yX0_stateAt ∈ GB := gb_in (List.mem_append_left _ (List.mem_of_getElem? (i := 0) (by decide +kernel))) rfl
theorem se_X1_wrapKey : Cond.selects RX1 yX1_wrapKey yX1_wrapKey ∈ GB := gb_in (List.mem_append_left _ (List.mem_of_getElem? (i := 1) (by decide +kernel))) rfl
theorem se_X1_wrapBox : Cond.selects RX1 yX1_wrapBox yX1_wrapBox ∈ GB := gb_in (List.mem_append_left _ (List.mem_of_getElem? (i := 2) (by decide +kernel))) rfl
theorem se_X1_hangingWithout : Cond.selects RX1 yX1_hangingWithout yX1_hangingWithout ∈ GB := gb_in (List.mem_append_left _ (List.mem_of_getElem? (i := 3) (by decide +kernel))) rfl
theorem se_X1_startNextMakes : Cond.selects RX1 yX1_startNextMakes yX1_startNextMakes ∈ GB := gb_in (List.mem_append_left _ (List.mem_of_getElem? (i := 4) (by decide +kernel))) rfl
theorem se_X6_burn : Cond.selects RX6 yX6_burn yX6_burn ∈ GB := gb_in (List.mem_append_left _ (List.mem_of_getElem? (i := 5) (by decide +kernel))) rfl
theorem se_X1_wrapAllOn : Cond.selects RX1 yX1_wrapAllOn yX1_wrapAllOn ∈ GB := gb_in (List.mem_append_left _ (List.mem_of_getElem? (i := 6) (by decide +kernel))) rfl
theorem se_X1_canWrapAgain : Cond.selects RX1 yX1_canWrapAgain yX1_canWrapAgain ∈ GB := gb_in (List.mem_append_left _ (List.mem_of_getElem? (i := 7) (by decide +kernel))) rfl
theorem se_X2_startFromSafe : Cond.selects RX2 yX2_startFromSafe yX2_startFromSafe ∈ GB := gb_in (List.mem_append_left _ (List.mem_of_getElem? (i := 8) (by decide +kernel))) rfl
theorem se_X2_openAll : Cond.selects RX2 yX2_openAll yX2_openAll ∈ GB := gb_in (List.mem_append_left _ (List.mem_of_getElem? (i := 9) (by decide +kernel))) rfl
theorem se_X2_openHolding : Cond.selects RX2 yX2_openHolding yX2_openHolding ∈ GB := gb_in (List.mem_append_left _ (List.mem_of_getElem? (i := 10) (by decide +kernel))) rfl
theorem se_X2_isHad : Cond.selects RX2 yX2_isHad yX2_isHad ∈ GB := gb_in (List.mem_append_left _ (List.mem_of_getElem? (i := 11) (by decide +kernel))) rfl
theorem se_X2_openedBoxes : Cond.selects RX2 yX2_openedBoxes yX2_openedBoxes ∈ GB := gb_in (List.mem_append_left _ (List.mem_of_getElem? (i := 12) (by decide +kernel))) rfl
theorem se_X3_skip : Cond.selects RX3 yX3_skip yX3_skip ∈ GB := gb_in (List.mem_append_left _ (List.mem_of_getElem? (i := 13) (by decide +kernel))) rfl
theorem se_X3_nextSign : Cond.selects RX3 yX3_nextSign yX3_nextSign ∈ GB := gb_in (List.mem_append_left _ (List.mem_of_getElem? (i := 14) (by decide +kernel))) rfl
theorem se_X3_readOrder : Cond.selects RX3 yX3_readOrder yX3_readOrder ∈ GB := gb_in (List.mem_append_left _ (List.mem_of_getElem? (i := 15) (by decide +kernel))) rfl
theorem se_X3_readNumber : Cond.selects RX3 yX3_readNumber yX3_readNumber ∈ GB := gb_in (List.mem_append_left _ (List.mem_of_getElem? (i := 16) (by decide +kernel))) rfl
theorem se_X3_readPlace : Cond.selects RX3 yX3_readPlace yX3_readPlace ∈ GB := gb_in (List.mem_append_left _ (List.mem_of_getElem? (i := 17) (by decide +kernel))) rfl
theorem se_X7_carryOutOrder : Cond.selects RX7 yX7_carryOutOrder yX7_carryOutOrder ∈ GB := gb_in (List.mem_append_left _ (List.mem_of_getElem? (i := 18) (by decide +kernel))) rfl
theorem se_X8_record : Cond.selects RX8 yX8_record yX8_record ∈ GB := gb_in (List.mem_append_left _ (List.mem_of_getElem? (i := 19) (by decide +kernel))) rfl
theorem se_X8_whyNoKey : Cond.selects RX8 yX8_whyNoKey yX8_whyNoKey ∈ GB := gb_in (List.mem_append_left _ (List.mem_of_getElem? (i := 20) (by decide +kernel))) rfl
theorem se_X8_isLiveKey : Cond.selects RX8 yX8_isLiveKey yX8_isLiveKey ∈ GB := gb_in (List.mem_append_left _ (List.mem_of_getElem? (i := 21) (by decide +kernel))) rfl
theorem se_X8_isKey : Cond.selects RX8 yX8_isKey yX8_isKey ∈ GB := gb_in (List.mem_append_left _ (List.mem_of_getElem? (i := 22) (by decide +kernel))) rfl
theorem se_X8_keyPart : Cond.selects RX8 yX8_keyPart yX8_keyPart ∈ GB := gb_in (List.mem_append_left _ (List.mem_of_getElem? (i := 23) (by decide +kernel))) rfl
theorem se_X8_canClose : Cond.selects RX8 yX8_canClose yX8_canClose ∈ GB := gb_in (List.mem_append_left _ (List.mem_of_getElem? (i := 24) (by decide +kernel))) rfl
theorem se_X8_makeKey : Cond.selects RX8 yX8_makeKey yX8_makeKey ∈ GB := gb_in (List.mem_append_left _ (List.mem_of_getElem? (i := 25) (by decide +kernel))) rfl
theorem se_X8_setKey : Cond.selects RX8 yX8_setKey yX8_setKey ∈ GB := gb_in (List.mem_append_left _ (List.mem_of_getElem? (i := 26) (by decide +kernel))) rfl
theorem se_X8_wrapKey : Cond.selects RX8 yX8_wrapKey yX8_wrapKey ∈ GB := gb_in (List.mem_append_left _ (List.mem_of_getElem? (i := 27) (by decide +kernel))) rfl
theorem se_X8_makeWrap : Cond.selects RX8 yX8_makeWrap yX8_makeWrap ∈ GB := gb_in (List.mem_append_left _ (List.mem_of_getElem? (i := 28) (by decide +kernel))) rfl
theorem se_X8_setWrap : Cond.selects RX8 yX8_setWrap yX8_setWrap ∈ GB := gb_in (List.mem_append_left _ (List.mem_of_getElem? (i := 29) (by decide +kernel))) rfl
theorem se_X8_whyNoBox : Cond.selects RX8 yX8_whyNoBox yX8_whyNoBox ∈ GB := gb_in (List.mem_append_left _ (List.mem_of_getElem? (i := 30) (by decide +kernel))) rfl
theorem se_X8_makeBox : Cond.selects RX8 yX8_makeBox yX8_makeBox ∈ GB := gb_in (List.mem_append_left _ (List.mem_of_getElem? (i := 31) (by decide +kernel))) rfl
theorem se_X8_setBox : Cond.selects RX8 yX8_setBox yX8_setBox ∈ GB := gb_in (List.mem_append_left _ (List.mem_of_getElem? (i := 32) (by decide +kernel))) rfl
theorem se_X8_wrapBox : Cond.selects RX8 yX8_wrapBox yX8_wrapBox ∈ GB := gb_in (List.mem_append_left _ (List.mem_of_getElem? (i := 33) (by decide +kernel))) rfl
theorem se_X8_boxPart : Cond.selects RX8 yX8_boxPart yX8_boxPart ∈ GB := gb_in (List.mem_append_left _ (List.mem_of_getElem? (i := 34) (by decide +kernel))) rfl
theorem se_X8_whyNoCopy : Cond.selects RX8 yX8_whyNoCopy yX8_whyNoCopy ∈ GB := gb_in (List.mem_append_left _ (List.mem_of_getElem? (i := 35) (by decide +kernel))) rfl
theorem se_X8_wrapPart : Cond.selects RX8 yX8_wrapPart yX8_wrapPart ∈ GB := gb_in (List.mem_append_left _ (List.mem_of_getElem? (i := 36) (by decide +kernel))) rfl
theorem se_X8_copied : Cond.selects RX8 yX8_copied yX8_copied ∈ GB := gb_in (List.mem_append_left _ (List.mem_of_getElem? (i := 37) (by decide +kernel))) rfl
theorem se_X8_whyNotRenewed : Cond.selects RX8 yX8_whyNotRenewed yX8_whyNotRenewed ∈ GB := gb_in (List.mem_append_left _ (List.mem_of_getElem? (i := 38) (by decide +kernel))) rfl
theorem se_X8_renewMakes : Cond.selects RX8 yX8_renewMakes yX8_renewMakes ∈ GB := gb_in (List.mem_append_left _ (List.mem_of_getElem? (i := 39) (by decide +kernel))) rfl
theorem se_X8_hangingFrom : Cond.selects RX8 yX8_hangingFrom yX8_hangingFrom ∈ GB := gb_in (List.mem_append_left _ (List.mem_of_getElem? (i := 40) (by decide +kernel))) rfl
theorem se_X8_hangingKeys : Cond.selects RX8 yX8_hangingKeys yX8_hangingKeys ∈ GB := gb_in (List.mem_append_left _ (List.mem_of_getElem? (i := 41) (by decide +kernel))) rfl
theorem se_X8_hangingBoxes : Cond.selects RX8 yX8_hangingBoxes yX8_hangingBoxes ∈ GB := gb_in (List.mem_append_left _ (List.mem_of_getElem? (i := 42) (by decide +kernel))) rfl
theorem se_X8_isRoot : Cond.selects RX8 yX8_isRoot yX8_isRoot ∈ GB := gb_in (List.mem_append_left _ (List.mem_of_getElem? (i := 43) (by decide +kernel))) rfl
theorem se_X8_renewed : Cond.selects RX8 yX8_renewed yX8_renewed ∈ GB := gb_in (List.mem_append_left _ (List.mem_of_getElem? (i := 44) (by decide +kernel))) rfl
theorem se_X8_makesAnew : Cond.selects RX8 yX8_makesAnew yX8_makesAnew ∈ GB := gb_in (List.mem_append_left _ (List.mem_of_getElem? (i := 45) (by decide +kernel))) rfl
theorem se_X8_burns : Cond.selects RX8 yX8_burns yX8_burns ∈ GB := gb_in (List.mem_append_left _ (List.mem_of_getElem? (i := 46) (by decide +kernel))) rfl
theorem se_X8_wrapAllUnder : Cond.selects RX8 yX8_wrapAllUnder yX8_wrapAllUnder ∈ GB := gb_in (List.mem_append_left _ (List.mem_of_getElem? (i := 47) (by decide +kernel))) rfl
theorem se_X8_whyKeyNotThrown : Cond.selects RX8 yX8_whyKeyNotThrown yX8_whyKeyNotThrown ∈ GB := gb_in (List.mem_append_left _ (List.mem_of_getElem? (i := 48) (by decide +kernel))) rfl
theorem se_X8_whyNotThrown : Cond.selects RX8 yX8_whyNotThrown yX8_whyNotThrown ∈ GB := gb_in (List.mem_append_left _ (List.mem_of_getElem? (i := 49) (by decide +kernel))) rfl
theorem se_X8_throwMakes : Cond.selects RX8 yX8_throwMakes yX8_throwMakes ∈ GB := gb_in (List.mem_append_left _ (List.mem_of_getElem? (i := 50) (by decide +kernel))) rfl
theorem se_X8_keyThrown : Cond.selects RX8 yX8_keyThrown yX8_keyThrown ∈ GB := gb_in (List.mem_append_left _ (List.mem_of_getElem? (i := 51) (by decide +kernel))) rfl
theorem se_X8_isUnder : Cond.selects RX8 yX8_isUnder yX8_isUnder ∈ GB := gb_in (List.mem_append_left _ (List.mem_of_getElem? (i := 52) (by decide +kernel))) rfl
theorem se_X8_makesAboveAnew : Cond.selects RX8 yX8_makesAboveAnew yX8_makesAboveAnew ∈ GB := gb_in (List.mem_append_left _ (List.mem_of_getElem? (i := 53) (by decide +kernel))) rfl
theorem se_X8_above : Cond.selects RX8 yX8_above yX8_above ∈ GB := gb_in (List.mem_append_left _ (List.mem_of_getElem? (i := 54) (by decide +kernel))) rfl
theorem se_X8_higher : Cond.selects RX8 yX8_higher yX8_higher ∈ GB := gb_in (List.mem_append_left _ (List.mem_of_getElem? (i := 55) (by decide +kernel))) rfl
theorem se_X8_whyBoxNotThrown : Cond.selects RX8 yX8_whyBoxNotThrown yX8_whyBoxNotThrown ∈ GB := gb_in (List.mem_append_left _ (List.mem_of_getElem? (i := 56) (by decide +kernel))) rfl
theorem se_X8_isLiveBox : Cond.selects RX8 yX8_isLiveBox yX8_isLiveBox ∈ GB := gb_in (List.mem_append_left _ (List.mem_of_getElem? (i := 57) (by decide +kernel))) rfl
theorem se_X8_isBox : Cond.selects RX8 yX8_isBox yX8_isBox ∈ GB := gb_in (List.mem_append_left _ (List.mem_of_getElem? (i := 58) (by decide +kernel))) rfl
theorem se_X8_boxThrown : Cond.selects RX8 yX8_boxThrown yX8_boxThrown ∈ GB := gb_in (List.mem_append_left _ (List.mem_of_getElem? (i := 59) (by decide +kernel))) rfl
theorem se_X8_openWith : Cond.selects RX8 yX8_openWith yX8_openWith ∈ GB := gb_in (List.mem_append_left _ (List.mem_of_getElem? (i := 60) (by decide +kernel))) rfl
theorem se_X8_open : Cond.selects RX8 yX8_open yX8_open ∈ GB := gb_in (List.mem_append_left _ (List.mem_of_getElem? (i := 61) (by decide +kernel))) rfl
theorem se_X8_isHad : Cond.selects RX8 yX8_isHad yX8_isHad ∈ GB := gb_in (List.mem_append_left _ (List.mem_of_getElem? (i := 62) (by decide +kernel))) rfl
theorem se_X8_isInSafe : Cond.selects RX8 yX8_isInSafe yX8_isInSafe ∈ GB := gb_in (List.mem_append_left _ (List.mem_of_getElem? (i := 63) (by decide +kernel))) rfl
theorem se_X8_openBoxes : Cond.selects RX8 yX8_openBoxes yX8_openBoxes ∈ GB := gb_in (List.mem_append_left _ (List.mem_of_getElem? (i := 64) (by decide +kernel))) rfl
theorem se_X8_liveKeys : Cond.selects RX8 yX8_liveKeys yX8_liveKeys ∈ GB := gb_in (List.mem_append_left _ (List.mem_of_getElem? (i := 65) (by decide +kernel))) rfl
theorem se_X8_liveBoxes : Cond.selects RX8 yX8_liveBoxes yX8_liveBoxes ∈ GB := gb_in (List.mem_append_left _ (List.mem_of_getElem? (i := 66) (by decide +kernel))) rfl
theorem se_X8_inHouse : Cond.selects RX8 yX8_inHouse yX8_inHouse ∈ GB := gb_in (List.mem_append_left _ (List.mem_of_getElem? (i := 67) (by decide +kernel))) rfl
theorem se_X8_outside : Cond.selects RX8 yX8_outside yX8_outside ∈ GB := gb_in (List.mem_append_left _ (List.mem_of_getElem? (i := 68) (by decide +kernel))) rfl
theorem se_X8_wornKeys : Cond.selects RX8 yX8_wornKeys yX8_wornKeys ∈ GB := gb_in (List.mem_append_left _ (List.mem_of_getElem? (i := 69) (by decide +kernel))) rfl
theorem se_X8_houseWrap : Cond.selects RX8 yX8_houseWrap yX8_houseWrap ∈ GB := gb_in (List.mem_append_left _ (List.mem_of_getElem? (i := 70) (by decide +kernel))) rfl
theorem se_X8_leftOf : Cond.selects RX8 yX8_leftOf yX8_leftOf ∈ GB := gb_in (List.mem_append_left _ (List.mem_of_getElem? (i := 71) (by decide +kernel))) rfl
theorem se_X8_findFault : Cond.selects RX8 yX8_findFault yX8_findFault ∈ GB := gb_in (List.mem_append_left _ (List.mem_of_getElem? (i := 72) (by decide +kernel))) rfl
theorem se_X8_readsOrder : Cond.selects RX8 yX8_readsOrder yX8_readsOrder ∈ GB := gb_in (List.mem_append_left _ (List.mem_of_getElem? (i := 73) (by decide +kernel))) rfl
theorem se_X8_character : Cond.selects RX8 yX8_character yX8_character ∈ GB := gb_in (List.mem_append_left _ (List.mem_of_getElem? (i := 74) (by decide +kernel))) rfl
theorem se_X8_takes : Cond.selects RX8 yX8_takes yX8_takes ∈ GB := gb_in (List.mem_append_left _ (List.mem_of_getElem? (i := 75) (by decide +kernel))) rfl
theorem se_X8_takeNumber : Cond.selects RX8 yX8_takeNumber yX8_takeNumber ∈ GB := gb_in (List.mem_append_left _ (List.mem_of_getElem? (i := 76) (by decide +kernel))) rfl
theorem se_X8_whyNotDone : Cond.selects RX8 yX8_whyNotDone yX8_whyNotDone ∈ GB := gb_in (List.mem_append_left _ (List.mem_of_getElem? (i := 77) (by decide +kernel))) rfl
theorem se_X8_does : Cond.selects RX8 yX8_does yX8_does ∈ GB := gb_in (List.mem_append_left _ (List.mem_of_getElem? (i := 78) (by decide +kernel))) rfl
theorem lay_X0 : ∀ w ∈ u_ws RX0 TX0 3, w ∈ GB := fun w hw => gb_in (List.mem_append_right _ ((show ∀ w ∈ u_ws RX0 TX0 3, w ∈ tables_1 by decide +kernel) w hw)) ((List.all_eq_true.mp (show (u_ws RX0 TX0 3).all goodWord = true by decide +kernel)) w hw)
theorem lay_X1 : ∀ w ∈ u_ws RX1 TX1 2, w ∈ GB := fun w hw => gb_in (List.mem_append_right _ ((show ∀ w ∈ u_ws RX1 TX1 2, w ∈ tables_1 by decide +kernel) w hw)) ((List.all_eq_true.mp (show (u_ws RX1 TX1 2).all goodWord = true by decide +kernel)) w hw)
theorem lay_X2 : ∀ w ∈ u_ws RX2 TX2 2, w ∈ GB := fun w hw => gb_in (List.mem_append_right _ ((show ∀ w ∈ u_ws RX2 TX2 2, w ∈ tables_1 by decide +kernel) w hw)) ((List.all_eq_true.mp (show (u_ws RX2 TX2 2).all goodWord = true by decide +kernel)) w hw)
theorem lay_X3 : ∀ w ∈ u_ws RX3 TX3 6, w ∈ GB := fun w hw => gb_in (List.mem_append_right _ ((show ∀ w ∈ u_ws RX3 TX3 6, w ∈ tables_1 by decide +kernel) w hw)) ((List.all_eq_true.mp (show (u_ws RX3 TX3 6).all goodWord = true by decide +kernel)) w hw)
theorem lay_X4 : ∀ w ∈ u_ws RX4 TX4 1, w ∈ GB := fun w hw => gb_in (List.mem_append_right _ ((show ∀ w ∈ u_ws RX4 TX4 1, w ∈ tables_1 by decide +kernel) w hw)) ((List.all_eq_true.mp (show (u_ws RX4 TX4 1).all goodWord = true by decide +kernel)) w hw)
theorem lay_X5 : ∀ w ∈ u_ws RX5 TX5 9, w ∈ GB := fun w hw => gb_in (List.mem_append_right _ ((show ∀ w ∈ u_ws RX5 TX5 9, w ∈ tables_1 by decide +kernel) w hw)) ((List.all_eq_true.mp (show (u_ws RX5 TX5 9).all goodWord = true by decide +kernel)) w hw)
theorem lay_X6 : ∀ w ∈ u_ws RX6 TX6 6, w ∈ GB := fun w hw => gb_in (List.mem_append_right _ ((show ∀ w ∈ u_ws RX6 TX6 6, w ∈ tables_1 by decide +kernel) w hw)) ((List.all_eq_true.mp (show (u_ws RX6 TX6 6).all goodWord = true by decide +kernel)) w hw)
theorem lay_X7 : ∀ w ∈ u_ws RX7 TX7 5, w ∈ GB := fun w hw => gb_in (List.mem_append_right _ ((show ∀ w ∈ u_ws RX7 TX7 5, w ∈ tables_1 by decide +kernel) w hw)) ((List.all_eq_true.mp (show (u_ws RX7 TX7 5).all goodWord = true by decide +kernel)) w hw)
theorem lay_X8 : ∀ w ∈ u_ws RX8 TX8 12, w ∈ GB := fun w hw => gb_in (List.mem_append_right _ ((show ∀ w ∈ u_ws RX8 TX8 12, w ∈ tables_1 by decide +kernel) w hw)) ((List.all_eq_true.mp (show (u_ws RX8 TX8 12).all goodWord = true by decide +kernel)) w hw)
/-- the links to nest mates: they are said of a state, not handed on -/
def nestL : List Cond := [Cond.methodLinkNest RX7 9 yX1_init "HangingKeys",
  Cond.methodLinkNest RX1 11 yX5_init "HangingKeys",
  Cond.fieldLinkNest RX1 25 "HangingKeys$Tree" "mostWear" "I" "HangingKeys",
  Cond.fieldLinkNest RX7 174 "HangingKeys$Tree" "mostWear" "I" "HangingKeys",
  Cond.fieldLinkNest RX1 33 "HangingKeys$Tree" "keys" "I" "HangingKeys",
  Cond.fieldLinkNest RX7 155 "HangingKeys$Tree" "keys" "I" "HangingKeys",
  Cond.fieldLinkNest RX1 50 "HangingKeys$Tree" "boxes" "I" "HangingKeys",
  Cond.fieldLinkNest RX7 162 "HangingKeys$Tree" "boxes" "I" "HangingKeys",
  Cond.fieldLinkNest RX7 159 "HangingKeys$Tree" "liveKeys" "I" "HangingKeys",
  Cond.fieldLinkNest RX7 165 "HangingKeys$Tree" "liveBoxes" "I" "HangingKeys",
  Cond.methodLinkNest RX1 20 yX6_init "HangingKeys",
  Cond.fieldLinkNest RX2 73 "HangingKeys$Wraps" "number" "I" "HangingKeys",
  Cond.fieldLinkNest RX7 168 "HangingKeys$Wraps" "number" "I" "HangingKeys",
  Cond.fieldLinkNest RX2 23 "HangingKeys$House" "tree" "LHangingKeys$Tree;" "HangingKeys",
  Cond.fieldLinkNest RX7 68 "HangingKeys$House" "tree" "LHangingKeys$Tree;" "HangingKeys",
  Cond.fieldLinkNest RX2 33 "HangingKeys$House" "wraps" "LHangingKeys$Wraps;" "HangingKeys",
  Cond.fieldLinkNest RX7 128 "HangingKeys$House" "wraps" "LHangingKeys$Wraps;" "HangingKeys",
  Cond.methodLinkNest RX7 18 yX2_init "HangingKeys",
  Cond.methodLinkNest RX7 25 yX3_init "HangingKeys",
  Cond.fieldLinkNest RX7 181 "HangingKeys$Pad" "length" "I" "HangingKeys",
  Cond.fieldLinkNest RX7 237 "HangingKeys$Pad" "letter" "I" "HangingKeys",
  Cond.fieldLinkNest RX7 240 "HangingKeys$Pad" "target" "I" "HangingKeys",
  Cond.fieldLinkNest RX7 243 "HangingKeys$Pad" "place" "I" "HangingKeys",
  Cond.methodLinkNest RX0 24 yX1_init "HangingKeys",
  Cond.fieldLinkNest RX7 184 "HangingKeys$History" "number" "I" "HangingKeys",
  Cond.methodLinkNest RX5 45 yX7_has "HangingKeys",
  Cond.methodLinkNest RX5 66 yX7_setOf "HangingKeys",
  Cond.methodLinkNest RX1 66 yX7_setOf "HangingKeys",
  Cond.methodLinkNest RX6 60 yX7_setOf "HangingKeys",
  Cond.methodLinkNest RX1 115 yX7_has "HangingKeys",
  Cond.methodLinkNest RX6 63 yX7_has "HangingKeys",
  Cond.methodLinkNest RX2 102 yX7_setOf "HangingKeys"]
theorem nl_X7_9 : Cond.methodLinkNest RX7 9 yX1_init "HangingKeys" ∈ nestL := List.mem_of_getElem? (i := 0) rfl
theorem nl_X1_11 : Cond.methodLinkNest RX1 11 yX5_init "HangingKeys" ∈ nestL := List.mem_of_getElem? (i := 1) rfl
theorem nl_X1_25 : Cond.fieldLinkNest RX1 25 "HangingKeys$Tree" "mostWear" "I" "HangingKeys" ∈ nestL := List.mem_of_getElem? (i := 2) rfl
theorem nl_X7_174 : Cond.fieldLinkNest RX7 174 "HangingKeys$Tree" "mostWear" "I" "HangingKeys" ∈ nestL := List.mem_of_getElem? (i := 3) rfl
theorem nl_X1_33 : Cond.fieldLinkNest RX1 33 "HangingKeys$Tree" "keys" "I" "HangingKeys" ∈ nestL := List.mem_of_getElem? (i := 4) rfl
theorem nl_X7_155 : Cond.fieldLinkNest RX7 155 "HangingKeys$Tree" "keys" "I" "HangingKeys" ∈ nestL := List.mem_of_getElem? (i := 5) rfl
theorem nl_X1_50 : Cond.fieldLinkNest RX1 50 "HangingKeys$Tree" "boxes" "I" "HangingKeys" ∈ nestL := List.mem_of_getElem? (i := 6) rfl
theorem nl_X7_162 : Cond.fieldLinkNest RX7 162 "HangingKeys$Tree" "boxes" "I" "HangingKeys" ∈ nestL := List.mem_of_getElem? (i := 7) rfl
theorem nl_X7_159 : Cond.fieldLinkNest RX7 159 "HangingKeys$Tree" "liveKeys" "I" "HangingKeys" ∈ nestL := List.mem_of_getElem? (i := 8) rfl
theorem nl_X7_165 : Cond.fieldLinkNest RX7 165 "HangingKeys$Tree" "liveBoxes" "I" "HangingKeys" ∈ nestL := List.mem_of_getElem? (i := 9) rfl
theorem nl_X1_20 : Cond.methodLinkNest RX1 20 yX6_init "HangingKeys" ∈ nestL := List.mem_of_getElem? (i := 10) rfl
theorem nl_X2_73 : Cond.fieldLinkNest RX2 73 "HangingKeys$Wraps" "number" "I" "HangingKeys" ∈ nestL := List.mem_of_getElem? (i := 11) rfl
theorem nl_X7_168 : Cond.fieldLinkNest RX7 168 "HangingKeys$Wraps" "number" "I" "HangingKeys" ∈ nestL := List.mem_of_getElem? (i := 12) rfl
theorem nl_X2_23 : Cond.fieldLinkNest RX2 23 "HangingKeys$House" "tree" "LHangingKeys$Tree;" "HangingKeys" ∈ nestL := List.mem_of_getElem? (i := 13) rfl
theorem nl_X7_68 : Cond.fieldLinkNest RX7 68 "HangingKeys$House" "tree" "LHangingKeys$Tree;" "HangingKeys" ∈ nestL := List.mem_of_getElem? (i := 14) rfl
theorem nl_X2_33 : Cond.fieldLinkNest RX2 33 "HangingKeys$House" "wraps" "LHangingKeys$Wraps;" "HangingKeys" ∈ nestL := List.mem_of_getElem? (i := 15) rfl
theorem nl_X7_128 : Cond.fieldLinkNest RX7 128 "HangingKeys$House" "wraps" "LHangingKeys$Wraps;" "HangingKeys" ∈ nestL := List.mem_of_getElem? (i := 16) rfl
theorem nl_X7_18 : Cond.methodLinkNest RX7 18 yX2_init "HangingKeys" ∈ nestL := List.mem_of_getElem? (i := 17) rfl
theorem nl_X7_25 : Cond.methodLinkNest RX7 25 yX3_init "HangingKeys" ∈ nestL := List.mem_of_getElem? (i := 18) rfl
theorem nl_X7_181 : Cond.fieldLinkNest RX7 181 "HangingKeys$Pad" "length" "I" "HangingKeys" ∈ nestL := List.mem_of_getElem? (i := 19) rfl
theorem nl_X7_237 : Cond.fieldLinkNest RX7 237 "HangingKeys$Pad" "letter" "I" "HangingKeys" ∈ nestL := List.mem_of_getElem? (i := 20) rfl
theorem nl_X7_240 : Cond.fieldLinkNest RX7 240 "HangingKeys$Pad" "target" "I" "HangingKeys" ∈ nestL := List.mem_of_getElem? (i := 21) rfl
theorem nl_X7_243 : Cond.fieldLinkNest RX7 243 "HangingKeys$Pad" "place" "I" "HangingKeys" ∈ nestL := List.mem_of_getElem? (i := 22) rfl
theorem nl_X0_24 : Cond.methodLinkNest RX0 24 yX1_init "HangingKeys" ∈ nestL := List.mem_of_getElem? (i := 23) rfl
theorem nl_X7_184 : Cond.fieldLinkNest RX7 184 "HangingKeys$History" "number" "I" "HangingKeys" ∈ nestL := List.mem_of_getElem? (i := 24) rfl
theorem nl_X5_45 : Cond.methodLinkNest RX5 45 yX7_has "HangingKeys" ∈ nestL := List.mem_of_getElem? (i := 25) rfl
theorem nl_X5_66 : Cond.methodLinkNest RX5 66 yX7_setOf "HangingKeys" ∈ nestL := List.mem_of_getElem? (i := 26) rfl
theorem nl_X1_66 : Cond.methodLinkNest RX1 66 yX7_setOf "HangingKeys" ∈ nestL := List.mem_of_getElem? (i := 27) rfl
theorem nl_X6_60 : Cond.methodLinkNest RX6 60 yX7_setOf "HangingKeys" ∈ nestL := List.mem_of_getElem? (i := 28) rfl
theorem nl_X1_115 : Cond.methodLinkNest RX1 115 yX7_has "HangingKeys" ∈ nestL := List.mem_of_getElem? (i := 29) rfl
theorem nl_X6_63 : Cond.methodLinkNest RX6 63 yX7_has "HangingKeys" ∈ nestL := List.mem_of_getElem? (i := 30) rfl
theorem nl_X2_102 : Cond.methodLinkNest RX2 102 yX7_setOf "HangingKeys" ∈ nestL := List.mem_of_getElem? (i := 31) rfl
theorem nest_in : ∀ w ∈ nestL, w ∈ lw_tbl := by
  intro w hw
  refine List.mem_append_right _ ?_
  revert w
  decide +kernel
end
section
theorem dX0_init_0 : decode cX0_init 0 = .ok (.aload_n 0, 1) := by decide +kernel
theorem dX0_init_1 : decode cX0_init 1 = .ok (.invokespecial 3, 3) := by decide +kernel
theorem dX0_init_4 : decode cX0_init 4 = .ok (.aload_n 0, 1) := by decide +kernel
theorem dX0_init_5 : decode cX0_init 5 = .ok (.bipush 7, 2) := by decide +kernel
theorem dX0_init_7 : decode cX0_init 7 = .ok (.anewarray 9, 3) := by decide +kernel
theorem dX0_init_10 : decode cX0_init 10 = .ok (.putfield 11, 3) := by decide +kernel
theorem dX0_init_13 : decode cX0_init 13 = .ok (.aload_n 0, 1) := by decide +kernel
theorem dX0_init_14 : decode cX0_init 14 = .ok (.iconst 0, 1) := by decide +kernel
theorem dX0_init_15 : decode cX0_init 15 = .ok (.putfield 17, 3) := by decide +kernel
theorem dX0_init_18 : decode cX0_init 18 = .ok (.aload_n 0, 1) := by decide +kernel
theorem dX0_init_19 : decode cX0_init 19 = .ok (.iconst 0, 1) := by decide +kernel
theorem dX0_init_20 : decode cX0_init 20 = .ok (.putfield 21, 3) := by decide +kernel
theorem dX0_init_23 : decode cX0_init 23 = .ok (.iconst 0, 1) := by decide +kernel
theorem dX0_init_24 : decode cX0_init 24 = .ok (.istore_n 1, 1) := by decide +kernel
theorem dX0_init_25 : decode cX0_init 25 = .ok (.iload_n 1, 1) := by decide +kernel
theorem dX0_init_26 : decode cX0_init 26 = .ok (.aload_n 0, 1) := by decide +kernel
theorem dX0_init_27 : decode cX0_init 27 = .ok (.getfield 11, 3) := by decide +kernel
theorem dX0_init_30 : decode cX0_init 30 = .ok (.arraylength, 1) := by decide +kernel
theorem dX0_init_31 : decode cX0_init 31 = .ok (.if_icmp .ge 22, 3) := by decide +kernel
theorem dX0_init_34 : decode cX0_init 34 = .ok (.aload_n 0, 1) := by decide +kernel
theorem dX0_init_35 : decode cX0_init 35 = .ok (.getfield 11, 3) := by decide +kernel
theorem dX0_init_38 : decode cX0_init 38 = .ok (.iload_n 1, 1) := by decide +kernel
theorem dX0_init_39 : decode cX0_init 39 = .ok (.new 9, 3) := by decide +kernel
theorem dX0_init_42 : decode cX0_init 42 = .ok (.dup, 1) := by decide +kernel
theorem dX0_init_43 : decode cX0_init 43 = .ok (.invokespecial 24, 3) := by decide +kernel
theorem dX0_init_46 : decode cX0_init 46 = .ok (.aastore, 1) := by decide +kernel
theorem dX0_init_47 : decode cX0_init 47 = .ok (.iinc 1 1, 3) := by decide +kernel
theorem dX0_init_50 : decode cX0_init 50 = .ok (.goto (-25), 3) := by decide +kernel
theorem dX0_init_53 : decode cX0_init 53 = .ok (.return_, 1) := by decide +kernel
theorem dX0_noteBefore_0 : decode cX0_noteBefore 0 = .ok (.aload_n 0, 1) := by decide +kernel
theorem dX0_noteBefore_1 : decode cX0_noteBefore 1 = .ok (.aload_n 0, 1) := by decide +kernel
theorem dX0_noteBefore_2 : decode cX0_noteBefore 2 = .ok (.getfield 17, 3) := by decide +kernel
theorem dX0_noteBefore_5 : decode cX0_noteBefore 5 = .ok (.invokevirtual 25, 3) := by decide +kernel
theorem dX0_noteBefore_8 : decode cX0_noteBefore 8 = .ok (.astore_n 2, 1) := by decide +kernel
theorem dX0_noteBefore_9 : decode cX0_noteBefore 9 = .ok (.aload_n 2, 1) := by decide +kernel
theorem dX0_noteBefore_10 : decode cX0_noteBefore 10 = .ok (.ifnull 8, 3) := by decide +kernel
theorem dX0_noteBefore_13 : decode cX0_noteBefore 13 = .ok (.aload_n 2, 1) := by decide +kernel
theorem dX0_noteBefore_14 : decode cX0_noteBefore 14 = .ok (.aload_n 1, 1) := by decide +kernel
theorem dX0_noteBefore_15 : decode cX0_noteBefore 15 = .ok (.invokevirtual 29, 3) := by decide +kernel
theorem dX0_noteBefore_18 : decode cX0_noteBefore 18 = .ok (.return_, 1) := by decide +kernel
theorem dX0_settle_0 : decode cX0_settle 0 = .ok (.iload_n 1, 1) := by decide +kernel
theorem dX0_settle_1 : decode cX0_settle 1 = .ok (.ifCond .lt 41, 3) := by decide +kernel
theorem dX0_settle_4 : decode cX0_settle 4 = .ok (.aload_n 0, 1) := by decide +kernel
theorem dX0_settle_5 : decode cX0_settle 5 = .ok (.aload_n 0, 1) := by decide +kernel
theorem dX0_settle_6 : decode cX0_settle 6 = .ok (.getfield 17, 3) := by decide +kernel
theorem dX0_settle_9 : decode cX0_settle 9 = .ok (.bipush 6, 2) := by decide +kernel
theorem dX0_settle_11 : decode cX0_settle 11 = .ok (.if_icmp .lt 7, 3) := by decide +kernel
theorem dX0_settle_14 : decode cX0_settle 14 = .ok (.iconst 0, 1) := by decide +kernel
theorem dX0_settle_15 : decode cX0_settle 15 = .ok (.goto 9, 3) := by decide +kernel
theorem dX0_settle_18 : decode cX0_settle 18 = .ok (.aload_n 0, 1) := by decide +kernel
theorem dX0_settle_19 : decode cX0_settle 19 = .ok (.getfield 17, 3) := by decide +kernel
theorem dX0_settle_22 : decode cX0_settle 22 = .ok (.iconst 1, 1) := by decide +kernel
theorem dX0_settle_23 : decode cX0_settle 23 = .ok (.iadd, 1) := by decide +kernel
theorem dX0_settle_24 : decode cX0_settle 24 = .ok (.putfield 17, 3) := by decide +kernel
theorem dX0_settle_27 : decode cX0_settle 27 = .ok (.aload_n 0, 1) := by decide +kernel
theorem dX0_settle_28 : decode cX0_settle 28 = .ok (.aload_n 0, 1) := by decide +kernel
theorem dX0_settle_29 : decode cX0_settle 29 = .ok (.getfield 21, 3) := by decide +kernel
theorem dX0_settle_32 : decode cX0_settle 32 = .ok (.iconst 1, 1) := by decide +kernel
theorem dX0_settle_33 : decode cX0_settle 33 = .ok (.iadd, 1) := by decide +kernel
theorem dX0_settle_34 : decode cX0_settle 34 = .ok (.bipush 6, 2) := by decide +kernel
theorem dX0_settle_36 : decode cX0_settle 36 = .ok (.invokestatic 33, 3) := by decide +kernel
theorem dX0_settle_39 : decode cX0_settle 39 = .ok (.putfield 21, 3) := by decide +kernel
theorem dX0_settle_42 : decode cX0_settle 42 = .ok (.iload_n 1, 1) := by decide +kernel
theorem dX0_settle_43 : decode cX0_settle 43 = .ok (.ireturn, 1) := by decide +kernel
theorem dX0_stepBack_0 : decode cX0_stepBack 0 = .ok (.aload_n 1, 1) := by decide +kernel
theorem dX0_stepBack_1 : decode cX0_stepBack 1 = .ok (.ifnull 10, 3) := by decide +kernel
theorem dX0_stepBack_4 : decode cX0_stepBack 4 = .ok (.aload_n 0, 1) := by decide +kernel
theorem dX0_stepBack_5 : decode cX0_stepBack 5 = .ok (.getfield 21, 3) := by decide +kernel
theorem dX0_stepBack_8 : decode cX0_stepBack 8 = .ok (.ifCond .gt 6, 3) := by decide +kernel
theorem dX0_stepBack_11 : decode cX0_stepBack 11 = .ok (.bipush (-5), 2) := by decide +kernel
theorem dX0_stepBack_13 : decode cX0_stepBack 13 = .ok (.ireturn, 1) := by decide +kernel
theorem dX0_stepBack_14 : decode cX0_stepBack 14 = .ok (.aload_n 0, 1) := by decide +kernel
theorem dX0_stepBack_15 : decode cX0_stepBack 15 = .ok (.aload_n 0, 1) := by decide +kernel
theorem dX0_stepBack_16 : decode cX0_stepBack 16 = .ok (.getfield 17, 3) := by decide +kernel
theorem dX0_stepBack_19 : decode cX0_stepBack 19 = .ok (.ifCond .gt 8, 3) := by decide +kernel
theorem dX0_stepBack_22 : decode cX0_stepBack 22 = .ok (.bipush 6, 2) := by decide +kernel
theorem dX0_stepBack_24 : decode cX0_stepBack 24 = .ok (.goto 9, 3) := by decide +kernel
theorem dX0_stepBack_27 : decode cX0_stepBack 27 = .ok (.aload_n 0, 1) := by decide +kernel
theorem dX0_stepBack_28 : decode cX0_stepBack 28 = .ok (.getfield 17, 3) := by decide +kernel
theorem dX0_stepBack_31 : decode cX0_stepBack 31 = .ok (.iconst 1, 1) := by decide +kernel
theorem dX0_stepBack_32 : decode cX0_stepBack 32 = .ok (.isub, 1) := by decide +kernel
theorem dX0_stepBack_33 : decode cX0_stepBack 33 = .ok (.putfield 17, 3) := by decide +kernel
theorem dX0_stepBack_36 : decode cX0_stepBack 36 = .ok (.aload_n 0, 1) := by decide +kernel
theorem dX0_stepBack_37 : decode cX0_stepBack 37 = .ok (.dup, 1) := by decide +kernel
theorem dX0_stepBack_38 : decode cX0_stepBack 38 = .ok (.getfield 21, 3) := by decide +kernel
theorem dX0_stepBack_41 : decode cX0_stepBack 41 = .ok (.iconst 1, 1) := by decide +kernel
theorem dX0_stepBack_42 : decode cX0_stepBack 42 = .ok (.isub, 1) := by decide +kernel
theorem dX0_stepBack_43 : decode cX0_stepBack 43 = .ok (.putfield 21, 3) := by decide +kernel
theorem dX0_stepBack_46 : decode cX0_stepBack 46 = .ok (.aload_n 1, 1) := by decide +kernel
theorem dX0_stepBack_47 : decode cX0_stepBack 47 = .ok (.aload_n 0, 1) := by decide +kernel
theorem dX0_stepBack_48 : decode cX0_stepBack 48 = .ok (.aload_n 0, 1) := by decide +kernel
theorem dX0_stepBack_49 : decode cX0_stepBack 49 = .ok (.getfield 17, 3) := by decide +kernel
theorem dX0_stepBack_52 : decode cX0_stepBack 52 = .ok (.invokevirtual 25, 3) := by decide +kernel
theorem dX0_stepBack_55 : decode cX0_stepBack 55 = .ok (.invokevirtual 29, 3) := by decide +kernel
theorem dX0_stepBack_58 : decode cX0_stepBack 58 = .ok (.aload_n 0, 1) := by decide +kernel
theorem dX0_stepBack_59 : decode cX0_stepBack 59 = .ok (.getfield 21, 3) := by decide +kernel
theorem dX0_stepBack_62 : decode cX0_stepBack 62 = .ok (.ireturn, 1) := by decide +kernel
theorem dX0_stateAt_0 : decode cX0_stateAt 0 = .ok (.iload_n 1, 1) := by decide +kernel
theorem dX0_stateAt_1 : decode cX0_stateAt 1 = .ok (.ifCond .lt 21, 3) := by decide +kernel
theorem dX0_stateAt_4 : decode cX0_stateAt 4 = .ok (.iload_n 1, 1) := by decide +kernel
theorem dX0_stateAt_5 : decode cX0_stateAt 5 = .ok (.aload_n 0, 1) := by decide +kernel
theorem dX0_stateAt_6 : decode cX0_stateAt 6 = .ok (.getfield 11, 3) := by decide +kernel
theorem dX0_stateAt_9 : decode cX0_stateAt 9 = .ok (.arraylength, 1) := by decide +kernel
theorem dX0_stateAt_10 : decode cX0_stateAt 10 = .ok (.if_icmp .ge 12, 3) := by decide +kernel
theorem dX0_stateAt_13 : decode cX0_stateAt 13 = .ok (.aload_n 0, 1) := by decide +kernel
theorem dX0_stateAt_14 : decode cX0_stateAt 14 = .ok (.getfield 11, 3) := by decide +kernel
theorem dX0_stateAt_17 : decode cX0_stateAt 17 = .ok (.iload_n 1, 1) := by decide +kernel
theorem dX0_stateAt_18 : decode cX0_stateAt 18 = .ok (.aaload, 1) := by decide +kernel
theorem dX0_stateAt_19 : decode cX0_stateAt 19 = .ok (.goto 4, 3) := by decide +kernel
theorem dX0_stateAt_22 : decode cX0_stateAt 22 = .ok (.aconst_null, 1) := by decide +kernel
theorem dX0_stateAt_23 : decode cX0_stateAt 23 = .ok (.areturn, 1) := by decide +kernel
theorem dX1_init_0 : decode cX1_init 0 = .ok (.aload_n 0, 1) := by decide +kernel
theorem dX1_init_1 : decode cX1_init 1 = .ok (.invokespecial 3, 3) := by decide +kernel
theorem dX1_init_4 : decode cX1_init 4 = .ok (.aload_n 0, 1) := by decide +kernel
theorem dX1_init_5 : decode cX1_init 5 = .ok (.new 9, 3) := by decide +kernel
theorem dX1_init_8 : decode cX1_init 8 = .ok (.dup, 1) := by decide +kernel
theorem dX1_init_9 : decode cX1_init 9 = .ok (.invokespecial 11, 3) := by decide +kernel
theorem dX1_init_12 : decode cX1_init 12 = .ok (.putfield 12, 3) := by decide +kernel
theorem dX1_init_15 : decode cX1_init 15 = .ok (.aload_n 0, 1) := by decide +kernel
theorem dX1_init_16 : decode cX1_init 16 = .ok (.new 18, 3) := by decide +kernel
theorem dX1_init_19 : decode cX1_init 19 = .ok (.dup, 1) := by decide +kernel
theorem dX1_init_20 : decode cX1_init 20 = .ok (.invokespecial 20, 3) := by decide +kernel
theorem dX1_init_23 : decode cX1_init 23 = .ok (.putfield 21, 3) := by decide +kernel
theorem dX1_init_26 : decode cX1_init 26 = .ok (.return_, 1) := by decide +kernel
theorem dX1_changeWear_0 : decode cX1_changeWear 0 = .ok (.iload_n 1, 1) := by decide +kernel
theorem dX1_changeWear_1 : decode cX1_changeWear 1 = .ok (.iconst 2, 1) := by decide +kernel
theorem dX1_changeWear_2 : decode cX1_changeWear 2 = .ok (.if_icmp .lt 9, 3) := by decide +kernel
theorem dX1_changeWear_5 : decode cX1_changeWear 5 = .ok (.iload_n 1, 1) := by decide +kernel
theorem dX1_changeWear_6 : decode cX1_changeWear 6 = .ok (.bipush 30, 2) := by decide +kernel
theorem dX1_changeWear_8 : decode cX1_changeWear 8 = .ok (.if_icmp .le 6, 3) := by decide +kernel
theorem dX1_changeWear_11 : decode cX1_changeWear 11 = .ok (.bipush (-2), 2) := by decide +kernel
theorem dX1_changeWear_13 : decode cX1_changeWear 13 = .ok (.ireturn, 1) := by decide +kernel
theorem dX1_changeWear_14 : decode cX1_changeWear 14 = .ok (.aload_n 0, 1) := by decide +kernel
theorem dX1_changeWear_15 : decode cX1_changeWear 15 = .ok (.getfield 12, 3) := by decide +kernel
theorem dX1_changeWear_18 : decode cX1_changeWear 18 = .ok (.getfield 25, 3) := by decide +kernel
theorem dX1_changeWear_21 : decode cX1_changeWear 21 = .ok (.istore_n 2, 1) := by decide +kernel
theorem dX1_changeWear_22 : decode cX1_changeWear 22 = .ok (.aload_n 0, 1) := by decide +kernel
theorem dX1_changeWear_23 : decode cX1_changeWear 23 = .ok (.getfield 12, 3) := by decide +kernel
theorem dX1_changeWear_26 : decode cX1_changeWear 26 = .ok (.iload_n 1, 1) := by decide +kernel
theorem dX1_changeWear_27 : decode cX1_changeWear 27 = .ok (.putfield 25, 3) := by decide +kernel
theorem dX1_changeWear_30 : decode cX1_changeWear 30 = .ok (.iload_n 2, 1) := by decide +kernel
theorem dX1_changeWear_31 : decode cX1_changeWear 31 = .ok (.ireturn, 1) := by decide +kernel
theorem dX1_makeKey_0 : decode cX1_makeKey 0 = .ok (.iload_n 1, 1) := by decide +kernel
theorem dX1_makeKey_1 : decode cX1_makeKey 1 = .ok (.bipush (-6), 2) := by decide +kernel
theorem dX1_makeKey_3 : decode cX1_makeKey 3 = .ok (.if_icmp .ne 7, 3) := by decide +kernel
theorem dX1_makeKey_6 : decode cX1_makeKey 6 = .ok (.iconst 1, 1) := by decide +kernel
theorem dX1_makeKey_7 : decode cX1_makeKey 7 = .ok (.goto 4, 3) := by decide +kernel
theorem dX1_makeKey_10 : decode cX1_makeKey 10 = .ok (.iconst 0, 1) := by decide +kernel
theorem dX1_makeKey_11 : decode cX1_makeKey 11 = .ok (.istore_n 2, 1) := by decide +kernel
theorem dX1_makeKey_12 : decode cX1_makeKey 12 = .ok (.iload_n 2, 1) := by decide +kernel
theorem dX1_makeKey_13 : decode cX1_makeKey 13 = .ok (.ifCond .ne 16, 3) := by decide +kernel
theorem dX1_makeKey_16 : decode cX1_makeKey 16 = .ok (.aload_n 0, 1) := by decide +kernel
theorem dX1_makeKey_17 : decode cX1_makeKey 17 = .ok (.getfield 12, 3) := by decide +kernel
theorem dX1_makeKey_20 : decode cX1_makeKey 20 = .ok (.iload_n 1, 1) := by decide +kernel
theorem dX1_makeKey_21 : decode cX1_makeKey 21 = .ok (.invokevirtual 29, 3) := by decide +kernel
theorem dX1_makeKey_24 : decode cX1_makeKey 24 = .ok (.ifCond .ne 5, 3) := by decide +kernel
theorem dX1_makeKey_27 : decode cX1_makeKey 27 = .ok (.iconst (-1), 1) := by decide +kernel
theorem dX1_makeKey_28 : decode cX1_makeKey 28 = .ok (.ireturn, 1) := by decide +kernel
theorem dX1_makeKey_29 : decode cX1_makeKey 29 = .ok (.aload_n 0, 1) := by decide +kernel
theorem dX1_makeKey_30 : decode cX1_makeKey 30 = .ok (.getfield 12, 3) := by decide +kernel
theorem dX1_makeKey_33 : decode cX1_makeKey 33 = .ok (.getfield 33, 3) := by decide +kernel
theorem dX1_makeKey_36 : decode cX1_makeKey 36 = .ok (.bipush 20, 2) := by decide +kernel
theorem dX1_makeKey_38 : decode cX1_makeKey 38 = .ok (.if_icmp .ge 18, 3) := by decide +kernel
theorem dX1_makeKey_41 : decode cX1_makeKey 41 = .ok (.iload_n 2, 1) := by decide +kernel
theorem dX1_makeKey_42 : decode cX1_makeKey 42 = .ok (.ifCond .ne 17, 3) := by decide +kernel
theorem dX1_makeKey_45 : decode cX1_makeKey 45 = .ok (.aload_n 0, 1) := by decide +kernel
theorem dX1_makeKey_46 : decode cX1_makeKey 46 = .ok (.getfield 21, 3) := by decide +kernel
theorem dX1_makeKey_49 : decode cX1_makeKey 49 = .ok (.iconst 1, 1) := by decide +kernel
theorem dX1_makeKey_50 : decode cX1_makeKey 50 = .ok (.invokevirtual 36, 3) := by decide +kernel
theorem dX1_makeKey_53 : decode cX1_makeKey 53 = .ok (.ifCond .ne 6, 3) := by decide +kernel
theorem dX1_makeKey_56 : decode cX1_makeKey 56 = .ok (.bipush (-4), 2) := by decide +kernel
theorem dX1_makeKey_58 : decode cX1_makeKey 58 = .ok (.ireturn, 1) := by decide +kernel
theorem dX1_makeKey_59 : decode cX1_makeKey 59 = .ok (.iload_n 2, 1) := by decide +kernel
theorem dX1_makeKey_60 : decode cX1_makeKey 60 = .ok (.ifCond .ne 17, 3) := by decide +kernel
theorem dX1_makeKey_63 : decode cX1_makeKey 63 = .ok (.aload_n 0, 1) := by decide +kernel
theorem dX1_makeKey_64 : decode cX1_makeKey 64 = .ok (.getfield 12, 3) := by decide +kernel
theorem dX1_makeKey_67 : decode cX1_makeKey 67 = .ok (.iload_n 1, 1) := by decide +kernel
theorem dX1_makeKey_68 : decode cX1_makeKey 68 = .ok (.invokevirtual 39, 3) := by decide +kernel
theorem dX1_makeKey_71 : decode cX1_makeKey 71 = .ok (.ifCond .ne 6, 3) := by decide +kernel
theorem dX1_makeKey_74 : decode cX1_makeKey 74 = .ok (.bipush (-5), 2) := by decide +kernel
theorem dX1_makeKey_76 : decode cX1_makeKey 76 = .ok (.ireturn, 1) := by decide +kernel
theorem dX1_makeKey_77 : decode cX1_makeKey 77 = .ok (.aload_n 0, 1) := by decide +kernel
theorem dX1_makeKey_78 : decode cX1_makeKey 78 = .ok (.getfield 12, 3) := by decide +kernel
theorem dX1_makeKey_81 : decode cX1_makeKey 81 = .ok (.iload_n 1, 1) := by decide +kernel
theorem dX1_makeKey_82 : decode cX1_makeKey 82 = .ok (.invokevirtual 43, 3) := by decide +kernel
theorem dX1_makeKey_85 : decode cX1_makeKey 85 = .ok (.istore_n 3, 1) := by decide +kernel
theorem dX1_makeKey_86 : decode cX1_makeKey 86 = .ok (.iload_n 2, 1) := by decide +kernel
theorem dX1_makeKey_87 : decode cX1_makeKey 87 = .ok (.ifCond .ne 8, 3) := by decide +kernel
theorem dX1_makeKey_90 : decode cX1_makeKey 90 = .ok (.aload_n 0, 1) := by decide +kernel
theorem dX1_makeKey_91 : decode cX1_makeKey 91 = .ok (.iload_n 3, 1) := by decide +kernel
theorem dX1_makeKey_92 : decode cX1_makeKey 92 = .ok (.invokevirtual 46, 3) := by decide +kernel
theorem dX1_makeKey_95 : decode cX1_makeKey 95 = .ok (.iload_n 3, 1) := by decide +kernel
theorem dX1_makeKey_96 : decode cX1_makeKey 96 = .ok (.ireturn, 1) := by decide +kernel
theorem dX1_makeBox_0 : decode cX1_makeBox 0 = .ok (.aload_n 0, 1) := by decide +kernel
theorem dX1_makeBox_1 : decode cX1_makeBox 1 = .ok (.getfield 12, 3) := by decide +kernel
theorem dX1_makeBox_4 : decode cX1_makeBox 4 = .ok (.iload_n 1, 1) := by decide +kernel
theorem dX1_makeBox_5 : decode cX1_makeBox 5 = .ok (.invokevirtual 29, 3) := by decide +kernel
theorem dX1_makeBox_8 : decode cX1_makeBox 8 = .ok (.ifCond .ne 5, 3) := by decide +kernel
theorem dX1_makeBox_11 : decode cX1_makeBox 11 = .ok (.iconst (-1), 1) := by decide +kernel
theorem dX1_makeBox_12 : decode cX1_makeBox 12 = .ok (.ireturn, 1) := by decide +kernel
theorem dX1_makeBox_13 : decode cX1_makeBox 13 = .ok (.aload_n 0, 1) := by decide +kernel
theorem dX1_makeBox_14 : decode cX1_makeBox 14 = .ok (.getfield 12, 3) := by decide +kernel
theorem dX1_makeBox_17 : decode cX1_makeBox 17 = .ok (.getfield 50, 3) := by decide +kernel
theorem dX1_makeBox_20 : decode cX1_makeBox 20 = .ok (.bipush 20, 2) := by decide +kernel
theorem dX1_makeBox_22 : decode cX1_makeBox 22 = .ok (.if_icmp .ge 14, 3) := by decide +kernel
theorem dX1_makeBox_25 : decode cX1_makeBox 25 = .ok (.aload_n 0, 1) := by decide +kernel
theorem dX1_makeBox_26 : decode cX1_makeBox 26 = .ok (.getfield 21, 3) := by decide +kernel
theorem dX1_makeBox_29 : decode cX1_makeBox 29 = .ok (.iconst 1, 1) := by decide +kernel
theorem dX1_makeBox_30 : decode cX1_makeBox 30 = .ok (.invokevirtual 36, 3) := by decide +kernel
theorem dX1_makeBox_33 : decode cX1_makeBox 33 = .ok (.ifCond .ne 6, 3) := by decide +kernel
theorem dX1_makeBox_36 : decode cX1_makeBox 36 = .ok (.bipush (-4), 2) := by decide +kernel
theorem dX1_makeBox_38 : decode cX1_makeBox 38 = .ok (.ireturn, 1) := by decide +kernel
theorem dX1_makeBox_39 : decode cX1_makeBox 39 = .ok (.aload_n 0, 1) := by decide +kernel
theorem dX1_makeBox_40 : decode cX1_makeBox 40 = .ok (.getfield 12, 3) := by decide +kernel
theorem dX1_makeBox_43 : decode cX1_makeBox 43 = .ok (.iload_n 1, 1) := by decide +kernel
theorem dX1_makeBox_44 : decode cX1_makeBox 44 = .ok (.invokevirtual 39, 3) := by decide +kernel
theorem dX1_makeBox_47 : decode cX1_makeBox 47 = .ok (.ifCond .ne 6, 3) := by decide +kernel
theorem dX1_makeBox_50 : decode cX1_makeBox 50 = .ok (.bipush (-5), 2) := by decide +kernel
theorem dX1_makeBox_52 : decode cX1_makeBox 52 = .ok (.ireturn, 1) := by decide +kernel
theorem dX1_makeBox_53 : decode cX1_makeBox 53 = .ok (.aload_n 0, 1) := by decide +kernel
theorem dX1_makeBox_54 : decode cX1_makeBox 54 = .ok (.getfield 12, 3) := by decide +kernel
theorem dX1_makeBox_57 : decode cX1_makeBox 57 = .ok (.iload_n 1, 1) := by decide +kernel
theorem dX1_makeBox_58 : decode cX1_makeBox 58 = .ok (.invokevirtual 53, 3) := by decide +kernel
theorem dX1_makeBox_61 : decode cX1_makeBox 61 = .ok (.istore_n 2, 1) := by decide +kernel
theorem dX1_makeBox_62 : decode cX1_makeBox 62 = .ok (.aload_n 0, 1) := by decide +kernel
theorem dX1_makeBox_63 : decode cX1_makeBox 63 = .ok (.iload_n 2, 1) := by decide +kernel
theorem dX1_makeBox_64 : decode cX1_makeBox 64 = .ok (.invokevirtual 56, 3) := by decide +kernel
theorem dX1_makeBox_67 : decode cX1_makeBox 67 = .ok (.iload_n 2, 1) := by decide +kernel
theorem dX1_makeBox_68 : decode cX1_makeBox 68 = .ok (.ireturn, 1) := by decide +kernel
theorem dX1_copyOut_0 : decode cX1_copyOut 0 = .ok (.aload_n 0, 1) := by decide +kernel
theorem dX1_copyOut_1 : decode cX1_copyOut 1 = .ok (.getfield 21, 3) := by decide +kernel
theorem dX1_copyOut_4 : decode cX1_copyOut 4 = .ok (.iload_n 1, 1) := by decide +kernel
theorem dX1_copyOut_5 : decode cX1_copyOut 5 = .ok (.invokevirtual 59, 3) := by decide +kernel
theorem dX1_copyOut_8 : decode cX1_copyOut 8 = .ok (.ifCond .ne 5, 3) := by decide +kernel
theorem dX1_copyOut_11 : decode cX1_copyOut 11 = .ok (.iconst (-1), 1) := by decide +kernel
theorem dX1_copyOut_12 : decode cX1_copyOut 12 = .ok (.ireturn, 1) := by decide +kernel
theorem dX1_copyOut_13 : decode cX1_copyOut 13 = .ok (.iload_n 2, 1) := by decide +kernel
theorem dX1_copyOut_14 : decode cX1_copyOut 14 = .ok (.ifCond .lt 8, 3) := by decide +kernel
theorem dX1_copyOut_17 : decode cX1_copyOut 17 = .ok (.iload_n 2, 1) := by decide +kernel
theorem dX1_copyOut_18 : decode cX1_copyOut 18 = .ok (.iconst 3, 1) := by decide +kernel
theorem dX1_copyOut_19 : decode cX1_copyOut 19 = .ok (.if_icmp .lt 6, 3) := by decide +kernel
theorem dX1_copyOut_22 : decode cX1_copyOut 22 = .ok (.bipush (-2), 2) := by decide +kernel
theorem dX1_copyOut_24 : decode cX1_copyOut 24 = .ok (.ireturn, 1) := by decide +kernel
theorem dX1_copyOut_25 : decode cX1_copyOut 25 = .ok (.aload_n 0, 1) := by decide +kernel
theorem dX1_copyOut_26 : decode cX1_copyOut 26 = .ok (.getfield 21, 3) := by decide +kernel
theorem dX1_copyOut_29 : decode cX1_copyOut 29 = .ok (.iload_n 1, 1) := by decide +kernel
theorem dX1_copyOut_30 : decode cX1_copyOut 30 = .ok (.bipush 8, 2) := by decide +kernel
theorem dX1_copyOut_32 : decode cX1_copyOut 32 = .ok (.invokevirtual 62, 3) := by decide +kernel
theorem dX1_copyOut_35 : decode cX1_copyOut 35 = .ok (.ifCond .eq 18, 3) := by decide +kernel
theorem dX1_copyOut_38 : decode cX1_copyOut 38 = .ok (.aload_n 0, 1) := by decide +kernel
theorem dX1_copyOut_39 : decode cX1_copyOut 39 = .ok (.getfield 21, 3) := by decide +kernel
theorem dX1_copyOut_42 : decode cX1_copyOut 42 = .ok (.iload_n 1, 1) := by decide +kernel
theorem dX1_copyOut_43 : decode cX1_copyOut 43 = .ok (.iload_n 2, 1) := by decide +kernel
theorem dX1_copyOut_44 : decode cX1_copyOut 44 = .ok (.invokestatic 66, 3) := by decide +kernel
theorem dX1_copyOut_47 : decode cX1_copyOut 47 = .ok (.invokevirtual 62, 3) := by decide +kernel
theorem dX1_copyOut_50 : decode cX1_copyOut 50 = .ok (.ifCond .eq 6, 3) := by decide +kernel
theorem dX1_copyOut_53 : decode cX1_copyOut 53 = .ok (.bipush (-5), 2) := by decide +kernel
theorem dX1_copyOut_55 : decode cX1_copyOut 55 = .ok (.ireturn, 1) := by decide +kernel
theorem dX1_copyOut_56 : decode cX1_copyOut 56 = .ok (.aload_n 0, 1) := by decide +kernel
theorem dX1_copyOut_57 : decode cX1_copyOut 57 = .ok (.getfield 21, 3) := by decide +kernel
theorem dX1_copyOut_60 : decode cX1_copyOut 60 = .ok (.iload_n 1, 1) := by decide +kernel
theorem dX1_copyOut_61 : decode cX1_copyOut 61 = .ok (.iload_n 2, 1) := by decide +kernel
theorem dX1_copyOut_62 : decode cX1_copyOut 62 = .ok (.invokevirtual 69, 3) := by decide +kernel
theorem dX1_copyOut_65 : decode cX1_copyOut 65 = .ok (.aload_n 0, 1) := by decide +kernel
theorem dX1_copyOut_66 : decode cX1_copyOut 66 = .ok (.getfield 21, 3) := by decide +kernel
theorem dX1_copyOut_69 : decode cX1_copyOut 69 = .ok (.iload_n 2, 1) := by decide +kernel
theorem dX1_copyOut_70 : decode cX1_copyOut 70 = .ok (.invokestatic 66, 3) := by decide +kernel
theorem dX1_copyOut_73 : decode cX1_copyOut 73 = .ok (.invokevirtual 73, 3) := by decide +kernel
theorem dX1_copyOut_76 : decode cX1_copyOut 76 = .ok (.ireturn, 1) := by decide +kernel
theorem dX1_makeAnew_0 : decode cX1_makeAnew 0 = .ok (.aload_n 0, 1) := by decide +kernel
theorem dX1_makeAnew_1 : decode cX1_makeAnew 1 = .ok (.getfield 12, 3) := by decide +kernel
theorem dX1_makeAnew_4 : decode cX1_makeAnew 4 = .ok (.iload_n 1, 1) := by decide +kernel
theorem dX1_makeAnew_5 : decode cX1_makeAnew 5 = .ok (.invokevirtual 29, 3) := by decide +kernel
theorem dX1_makeAnew_8 : decode cX1_makeAnew 8 = .ok (.ifCond .ne 5, 3) := by decide +kernel
theorem dX1_makeAnew_11 : decode cX1_makeAnew 11 = .ok (.iconst (-1), 1) := by decide +kernel
theorem dX1_makeAnew_12 : decode cX1_makeAnew 12 = .ok (.ireturn, 1) := by decide +kernel
theorem dX1_makeAnew_13 : decode cX1_makeAnew 13 = .ok (.aload_n 0, 1) := by decide +kernel
theorem dX1_makeAnew_14 : decode cX1_makeAnew 14 = .ok (.getfield 12, 3) := by decide +kernel
theorem dX1_makeAnew_17 : decode cX1_makeAnew 17 = .ok (.iload_n 1, 1) := by decide +kernel
theorem dX1_makeAnew_18 : decode cX1_makeAnew 18 = .ok (.invokevirtual 76, 3) := by decide +kernel
theorem dX1_makeAnew_21 : decode cX1_makeAnew 21 = .ok (.istore_n 2, 1) := by decide +kernel
theorem dX1_makeAnew_22 : decode cX1_makeAnew 22 = .ok (.aload_n 0, 1) := by decide +kernel
theorem dX1_makeAnew_23 : decode cX1_makeAnew 23 = .ok (.iload_n 1, 1) := by decide +kernel
theorem dX1_makeAnew_24 : decode cX1_makeAnew 24 = .ok (.invokestatic 66, 3) := by decide +kernel
theorem dX1_makeAnew_27 : decode cX1_makeAnew 27 = .ok (.iconst 0, 1) := by decide +kernel
theorem dX1_makeAnew_28 : decode cX1_makeAnew 28 = .ok (.iconst 0, 1) := by decide +kernel
theorem dX1_makeAnew_29 : decode cX1_makeAnew 29 = .ok (.invokevirtual 79, 3) := by decide +kernel
theorem dX1_makeAnew_32 : decode cX1_makeAnew 32 = .ok (.istore_n 3, 1) := by decide +kernel
theorem dX1_makeAnew_33 : decode cX1_makeAnew 33 = .ok (.iload_n 2, 1) := by decide +kernel
theorem dX1_makeAnew_34 : decode cX1_makeAnew 34 = .ok (.ifCond .eq 7, 3) := by decide +kernel
theorem dX1_makeAnew_37 : decode cX1_makeAnew 37 = .ok (.iload_n 3, 1) := by decide +kernel
theorem dX1_makeAnew_38 : decode cX1_makeAnew 38 = .ok (.goto 6, 3) := by decide +kernel
theorem dX1_makeAnew_41 : decode cX1_makeAnew 41 = .ok (.iload_n 3, 1) := by decide +kernel
theorem dX1_makeAnew_42 : decode cX1_makeAnew 42 = .ok (.iconst 1, 1) := by decide +kernel
theorem dX1_makeAnew_43 : decode cX1_makeAnew 43 = .ok (.iadd, 1) := by decide +kernel
theorem dX1_makeAnew_44 : decode cX1_makeAnew 44 = .ok (.istore 4, 2) := by decide +kernel
theorem dX1_makeAnew_46 : decode cX1_makeAnew 46 = .ok (.aload_n 0, 1) := by decide +kernel
theorem dX1_makeAnew_47 : decode cX1_makeAnew 47 = .ok (.getfield 21, 3) := by decide +kernel
theorem dX1_makeAnew_50 : decode cX1_makeAnew 50 = .ok (.iload 4, 2) := by decide +kernel
theorem dX1_makeAnew_52 : decode cX1_makeAnew 52 = .ok (.invokevirtual 36, 3) := by decide +kernel
theorem dX1_makeAnew_55 : decode cX1_makeAnew 55 = .ok (.ifCond .ne 6, 3) := by decide +kernel
theorem dX1_makeAnew_58 : decode cX1_makeAnew 58 = .ok (.bipush (-4), 2) := by decide +kernel
theorem dX1_makeAnew_60 : decode cX1_makeAnew 60 = .ok (.ireturn, 1) := by decide +kernel
theorem dX1_makeAnew_61 : decode cX1_makeAnew 61 = .ok (.iload_n 2, 1) := by decide +kernel
theorem dX1_makeAnew_62 : decode cX1_makeAnew 62 = .ok (.ifCond .ne 21, 3) := by decide +kernel
theorem dX1_makeAnew_65 : decode cX1_makeAnew 65 = .ok (.aload_n 0, 1) := by decide +kernel
theorem dX1_makeAnew_66 : decode cX1_makeAnew 66 = .ok (.getfield 12, 3) := by decide +kernel
theorem dX1_makeAnew_69 : decode cX1_makeAnew 69 = .ok (.aload_n 0, 1) := by decide +kernel
theorem dX1_makeAnew_70 : decode cX1_makeAnew 70 = .ok (.getfield 12, 3) := by decide +kernel
theorem dX1_makeAnew_73 : decode cX1_makeAnew 73 = .ok (.iload_n 1, 1) := by decide +kernel
theorem dX1_makeAnew_74 : decode cX1_makeAnew 74 = .ok (.invokevirtual 83, 3) := by decide +kernel
theorem dX1_makeAnew_77 : decode cX1_makeAnew 77 = .ok (.invokevirtual 39, 3) := by decide +kernel
theorem dX1_makeAnew_80 : decode cX1_makeAnew 80 = .ok (.ifCond .eq 14, 3) := by decide +kernel
theorem dX1_makeAnew_83 : decode cX1_makeAnew 83 = .ok (.iload_n 3, 1) := by decide +kernel
theorem dX1_makeAnew_84 : decode cX1_makeAnew 84 = .ok (.aload_n 0, 1) := by decide +kernel
theorem dX1_makeAnew_85 : decode cX1_makeAnew 85 = .ok (.getfield 12, 3) := by decide +kernel
theorem dX1_makeAnew_88 : decode cX1_makeAnew 88 = .ok (.getfield 25, 3) := by decide +kernel
theorem dX1_makeAnew_91 : decode cX1_makeAnew 91 = .ok (.if_icmp .le 6, 3) := by decide +kernel
theorem dX1_makeAnew_94 : decode cX1_makeAnew 94 = .ok (.bipush (-5), 2) := by decide +kernel
theorem dX1_makeAnew_96 : decode cX1_makeAnew 96 = .ok (.ireturn, 1) := by decide +kernel
theorem dX1_makeAnew_97 : decode cX1_makeAnew 97 = .ok (.aload_n 0, 1) := by decide +kernel
theorem dX1_makeAnew_98 : decode cX1_makeAnew 98 = .ok (.iload_n 1, 1) := by decide +kernel
theorem dX1_makeAnew_99 : decode cX1_makeAnew 99 = .ok (.invokestatic 66, 3) := by decide +kernel
theorem dX1_makeAnew_102 : decode cX1_makeAnew 102 = .ok (.invokevirtual 86, 3) := by decide +kernel
theorem dX1_makeAnew_105 : decode cX1_makeAnew 105 = .ok (.iload_n 2, 1) := by decide +kernel
theorem dX1_makeAnew_106 : decode cX1_makeAnew 106 = .ok (.ifCond .ne 8, 3) := by decide +kernel
theorem dX1_makeAnew_109 : decode cX1_makeAnew 109 = .ok (.aload_n 0, 1) := by decide +kernel
theorem dX1_makeAnew_110 : decode cX1_makeAnew 110 = .ok (.iload_n 1, 1) := by decide +kernel
theorem dX1_makeAnew_111 : decode cX1_makeAnew 111 = .ok (.invokevirtual 46, 3) := by decide +kernel
theorem dX1_makeAnew_114 : decode cX1_makeAnew 114 = .ok (.aload_n 0, 1) := by decide +kernel
theorem dX1_makeAnew_115 : decode cX1_makeAnew 115 = .ok (.iload_n 1, 1) := by decide +kernel
theorem dX1_makeAnew_116 : decode cX1_makeAnew 116 = .ok (.invokevirtual 89, 3) := by decide +kernel
theorem dX1_makeAnew_119 : decode cX1_makeAnew 119 = .ok (.iload 4, 2) := by decide +kernel
theorem dX1_makeAnew_121 : decode cX1_makeAnew 121 = .ok (.ireturn, 1) := by decide +kernel
theorem dX1_throwAway_0 : decode cX1_throwAway 0 = .ok (.aload_n 0, 1) := by decide +kernel
theorem dX1_throwAway_1 : decode cX1_throwAway 1 = .ok (.getfield 12, 3) := by decide +kernel
theorem dX1_throwAway_4 : decode cX1_throwAway 4 = .ok (.iload_n 1, 1) := by decide +kernel
theorem dX1_throwAway_5 : decode cX1_throwAway 5 = .ok (.iload_n 2, 1) := by decide +kernel
theorem dX1_throwAway_6 : decode cX1_throwAway 6 = .ok (.invokevirtual 92, 3) := by decide +kernel
theorem dX1_throwAway_9 : decode cX1_throwAway 9 = .ok (.ifCond .ne 5, 3) := by decide +kernel
theorem dX1_throwAway_12 : decode cX1_throwAway 12 = .ok (.iconst (-1), 1) := by decide +kernel
theorem dX1_throwAway_13 : decode cX1_throwAway 13 = .ok (.ireturn, 1) := by decide +kernel
theorem dX1_throwAway_14 : decode cX1_throwAway 14 = .ok (.aload_n 0, 1) := by decide +kernel
theorem dX1_throwAway_15 : decode cX1_throwAway 15 = .ok (.getfield 12, 3) := by decide +kernel
theorem dX1_throwAway_18 : decode cX1_throwAway 18 = .ok (.iload_n 1, 1) := by decide +kernel
theorem dX1_throwAway_19 : decode cX1_throwAway 19 = .ok (.iload_n 2, 1) := by decide +kernel
theorem dX1_throwAway_20 : decode cX1_throwAway 20 = .ok (.invokevirtual 95, 3) := by decide +kernel
theorem dX1_throwAway_23 : decode cX1_throwAway 23 = .ok (.istore_n 3, 1) := by decide +kernel
theorem dX1_throwAway_24 : decode cX1_throwAway 24 = .ok (.iload_n 1, 1) := by decide +kernel
theorem dX1_throwAway_25 : decode cX1_throwAway 25 = .ok (.ifCond .ne 14, 3) := by decide +kernel
theorem dX1_throwAway_28 : decode cX1_throwAway 28 = .ok (.aload_n 0, 1) := by decide +kernel
theorem dX1_throwAway_29 : decode cX1_throwAway 29 = .ok (.getfield 12, 3) := by decide +kernel
theorem dX1_throwAway_32 : decode cX1_throwAway 32 = .ok (.iload_n 2, 1) := by decide +kernel
theorem dX1_throwAway_33 : decode cX1_throwAway 33 = .ok (.invokevirtual 99, 3) := by decide +kernel
theorem dX1_throwAway_36 : decode cX1_throwAway 36 = .ok (.goto 4, 3) := by decide +kernel
theorem dX1_throwAway_39 : decode cX1_throwAway 39 = .ok (.iconst 0, 1) := by decide +kernel
theorem dX1_throwAway_40 : decode cX1_throwAway 40 = .ok (.istore 4, 2) := by decide +kernel
theorem dX1_throwAway_42 : decode cX1_throwAway 42 = .ok (.iload_n 1, 1) := by decide +kernel
theorem dX1_throwAway_43 : decode cX1_throwAway 43 = .ok (.ifCond .ne 15, 3) := by decide +kernel
theorem dX1_throwAway_46 : decode cX1_throwAway 46 = .ok (.aload_n 0, 1) := by decide +kernel
theorem dX1_throwAway_47 : decode cX1_throwAway 47 = .ok (.getfield 12, 3) := by decide +kernel
theorem dX1_throwAway_50 : decode cX1_throwAway 50 = .ok (.iload 4, 2) := by decide +kernel
theorem dX1_throwAway_52 : decode cX1_throwAway 52 = .ok (.invokevirtual 102, 3) := by decide +kernel
theorem dX1_throwAway_55 : decode cX1_throwAway 55 = .ok (.goto 7, 3) := by decide +kernel
theorem dX1_throwAway_58 : decode cX1_throwAway 58 = .ok (.iload_n 2, 1) := by decide +kernel
theorem dX1_throwAway_59 : decode cX1_throwAway 59 = .ok (.invokestatic 66, 3) := by decide +kernel
theorem dX1_throwAway_62 : decode cX1_throwAway 62 = .ok (.istore 5, 2) := by decide +kernel
theorem dX1_throwAway_64 : decode cX1_throwAway 64 = .ok (.aload_n 0, 1) := by decide +kernel
theorem dX1_throwAway_65 : decode cX1_throwAway 65 = .ok (.iload_n 3, 1) := by decide +kernel
theorem dX1_throwAway_66 : decode cX1_throwAway 66 = .ok (.iload 4, 2) := by decide +kernel
theorem dX1_throwAway_68 : decode cX1_throwAway 68 = .ok (.iload 5, 2) := by decide +kernel
theorem dX1_throwAway_70 : decode cX1_throwAway 70 = .ok (.invokevirtual 79, 3) := by decide +kernel
theorem dX1_throwAway_73 : decode cX1_throwAway 73 = .ok (.istore 6, 2) := by decide +kernel
theorem dX1_throwAway_75 : decode cX1_throwAway 75 = .ok (.aload_n 0, 1) := by decide +kernel
theorem dX1_throwAway_76 : decode cX1_throwAway 76 = .ok (.getfield 21, 3) := by decide +kernel
theorem dX1_throwAway_79 : decode cX1_throwAway 79 = .ok (.iload 6, 2) := by decide +kernel
theorem dX1_throwAway_81 : decode cX1_throwAway 81 = .ok (.invokevirtual 36, 3) := by decide +kernel
theorem dX1_throwAway_84 : decode cX1_throwAway 84 = .ok (.ifCond .ne 6, 3) := by decide +kernel
theorem dX1_throwAway_87 : decode cX1_throwAway 87 = .ok (.bipush (-4), 2) := by decide +kernel
theorem dX1_throwAway_89 : decode cX1_throwAway 89 = .ok (.ireturn, 1) := by decide +kernel
theorem dX1_throwAway_90 : decode cX1_throwAway 90 = .ok (.aload_n 0, 1) := by decide +kernel
theorem dX1_throwAway_91 : decode cX1_throwAway 91 = .ok (.iload_n 3, 1) := by decide +kernel
theorem dX1_throwAway_92 : decode cX1_throwAway 92 = .ok (.iload 4, 2) := by decide +kernel
theorem dX1_throwAway_94 : decode cX1_throwAway 94 = .ok (.iload 5, 2) := by decide +kernel
theorem dX1_throwAway_96 : decode cX1_throwAway 96 = .ok (.invokevirtual 105, 3) := by decide +kernel
theorem dX1_throwAway_99 : decode cX1_throwAway 99 = .ok (.ifCond .ne 6, 3) := by decide +kernel
theorem dX1_throwAway_102 : decode cX1_throwAway 102 = .ok (.bipush (-5), 2) := by decide +kernel
theorem dX1_throwAway_104 : decode cX1_throwAway 104 = .ok (.ireturn, 1) := by decide +kernel
theorem dX1_throwAway_105 : decode cX1_throwAway 105 = .ok (.aload_n 0, 1) := by decide +kernel
theorem dX1_throwAway_106 : decode cX1_throwAway 106 = .ok (.getfield 12, 3) := by decide +kernel
theorem dX1_throwAway_109 : decode cX1_throwAway 109 = .ok (.iload 4, 2) := by decide +kernel
theorem dX1_throwAway_111 : decode cX1_throwAway 111 = .ok (.iload 5, 2) := by decide +kernel
theorem dX1_throwAway_113 : decode cX1_throwAway 113 = .ok (.invokevirtual 109, 3) := by decide +kernel
theorem dX1_throwAway_116 : decode cX1_throwAway 116 = .ok (.aload_n 0, 1) := by decide +kernel
theorem dX1_throwAway_117 : decode cX1_throwAway 117 = .ok (.getfield 21, 3) := by decide +kernel
theorem dX1_throwAway_120 : decode cX1_throwAway 120 = .ok (.iload 4, 2) := by decide +kernel
theorem dX1_throwAway_122 : decode cX1_throwAway 122 = .ok (.iload 5, 2) := by decide +kernel
theorem dX1_throwAway_124 : decode cX1_throwAway 124 = .ok (.invokevirtual 112, 3) := by decide +kernel
theorem dX1_throwAway_127 : decode cX1_throwAway 127 = .ok (.aload_n 0, 1) := by decide +kernel
theorem dX1_throwAway_128 : decode cX1_throwAway 128 = .ok (.iload_n 3, 1) := by decide +kernel
theorem dX1_throwAway_129 : decode cX1_throwAway 129 = .ok (.invokevirtual 86, 3) := by decide +kernel
theorem dX1_throwAway_132 : decode cX1_throwAway 132 = .ok (.iconst 0, 1) := by decide +kernel
theorem dX1_throwAway_133 : decode cX1_throwAway 133 = .ok (.istore 7, 2) := by decide +kernel
theorem dX1_throwAway_135 : decode cX1_throwAway 135 = .ok (.iload 7, 2) := by decide +kernel
theorem dX1_throwAway_137 : decode cX1_throwAway 137 = .ok (.bipush 20, 2) := by decide +kernel
theorem dX1_throwAway_139 : decode cX1_throwAway 139 = .ok (.if_icmp .ge 24, 3) := by decide +kernel
theorem dX1_throwAway_142 : decode cX1_throwAway 142 = .ok (.iload_n 3, 1) := by decide +kernel
theorem dX1_throwAway_143 : decode cX1_throwAway 143 = .ok (.iload 7, 2) := by decide +kernel
theorem dX1_throwAway_145 : decode cX1_throwAway 145 = .ok (.invokestatic 115, 3) := by decide +kernel
theorem dX1_throwAway_148 : decode cX1_throwAway 148 = .ok (.ifCond .eq 9, 3) := by decide +kernel
theorem dX1_throwAway_151 : decode cX1_throwAway 151 = .ok (.aload_n 0, 1) := by decide +kernel
theorem dX1_throwAway_152 : decode cX1_throwAway 152 = .ok (.iload 7, 2) := by decide +kernel
theorem dX1_throwAway_154 : decode cX1_throwAway 154 = .ok (.invokevirtual 89, 3) := by decide +kernel
theorem dX1_throwAway_157 : decode cX1_throwAway 157 = .ok (.iinc 7 1, 3) := by decide +kernel
theorem dX1_throwAway_160 : decode cX1_throwAway 160 = .ok (.goto (-25), 3) := by decide +kernel
theorem dX1_throwAway_163 : decode cX1_throwAway 163 = .ok (.iload 6, 2) := by decide +kernel
theorem dX1_throwAway_165 : decode cX1_throwAway 165 = .ok (.ireturn, 1) := by decide +kernel
theorem dX1_wrapsByThrowing_0 : decode cX1_wrapsByThrowing 0 = .ok (.aload_n 0, 1) := by decide +kernel
theorem dX1_wrapsByThrowing_1 : decode cX1_wrapsByThrowing 1 = .ok (.getfield 12, 3) := by decide +kernel
theorem dX1_wrapsByThrowing_4 : decode cX1_wrapsByThrowing 4 = .ok (.iload_n 1, 1) := by decide +kernel
theorem dX1_wrapsByThrowing_5 : decode cX1_wrapsByThrowing 5 = .ok (.iload_n 2, 1) := by decide +kernel
theorem dX1_wrapsByThrowing_6 : decode cX1_wrapsByThrowing 6 = .ok (.invokevirtual 92, 3) := by decide +kernel
theorem dX1_wrapsByThrowing_9 : decode cX1_wrapsByThrowing 9 = .ok (.ifCond .ne 5, 3) := by decide +kernel
theorem dX1_wrapsByThrowing_12 : decode cX1_wrapsByThrowing 12 = .ok (.iconst (-1), 1) := by decide +kernel
theorem dX1_wrapsByThrowing_13 : decode cX1_wrapsByThrowing 13 = .ok (.ireturn, 1) := by decide +kernel
theorem dX1_wrapsByThrowing_14 : decode cX1_wrapsByThrowing 14 = .ok (.aload_n 0, 1) := by decide +kernel
theorem dX1_wrapsByThrowing_15 : decode cX1_wrapsByThrowing 15 = .ok (.getfield 12, 3) := by decide +kernel
theorem dX1_wrapsByThrowing_18 : decode cX1_wrapsByThrowing 18 = .ok (.iload_n 1, 1) := by decide +kernel
theorem dX1_wrapsByThrowing_19 : decode cX1_wrapsByThrowing 19 = .ok (.iload_n 2, 1) := by decide +kernel
theorem dX1_wrapsByThrowing_20 : decode cX1_wrapsByThrowing 20 = .ok (.invokevirtual 95, 3) := by decide +kernel
theorem dX1_wrapsByThrowing_23 : decode cX1_wrapsByThrowing 23 = .ok (.istore_n 3, 1) := by decide +kernel
theorem dX1_wrapsByThrowing_24 : decode cX1_wrapsByThrowing 24 = .ok (.iload_n 1, 1) := by decide +kernel
theorem dX1_wrapsByThrowing_25 : decode cX1_wrapsByThrowing 25 = .ok (.ifCond .ne 10, 3) := by decide +kernel
theorem dX1_wrapsByThrowing_28 : decode cX1_wrapsByThrowing 28 = .ok (.iload_n 2, 1) := by decide +kernel
theorem dX1_wrapsByThrowing_29 : decode cX1_wrapsByThrowing 29 = .ok (.invokestatic 66, 3) := by decide +kernel
theorem dX1_wrapsByThrowing_32 : decode cX1_wrapsByThrowing 32 = .ok (.goto 4, 3) := by decide +kernel
theorem dX1_wrapsByThrowing_35 : decode cX1_wrapsByThrowing 35 = .ok (.iconst 0, 1) := by decide +kernel
theorem dX1_wrapsByThrowing_36 : decode cX1_wrapsByThrowing 36 = .ok (.istore 4, 2) := by decide +kernel
theorem dX1_wrapsByThrowing_38 : decode cX1_wrapsByThrowing 38 = .ok (.iload_n 1, 1) := by decide +kernel
theorem dX1_wrapsByThrowing_39 : decode cX1_wrapsByThrowing 39 = .ok (.ifCond .ne 7, 3) := by decide +kernel
theorem dX1_wrapsByThrowing_42 : decode cX1_wrapsByThrowing 42 = .ok (.iconst 0, 1) := by decide +kernel
theorem dX1_wrapsByThrowing_43 : decode cX1_wrapsByThrowing 43 = .ok (.goto 7, 3) := by decide +kernel
theorem dX1_wrapsByThrowing_46 : decode cX1_wrapsByThrowing 46 = .ok (.iload_n 2, 1) := by decide +kernel
theorem dX1_wrapsByThrowing_47 : decode cX1_wrapsByThrowing 47 = .ok (.invokestatic 66, 3) := by decide +kernel
theorem dX1_wrapsByThrowing_50 : decode cX1_wrapsByThrowing 50 = .ok (.istore 5, 2) := by decide +kernel
theorem dX1_wrapsByThrowing_52 : decode cX1_wrapsByThrowing 52 = .ok (.aload_n 0, 1) := by decide +kernel
theorem dX1_wrapsByThrowing_53 : decode cX1_wrapsByThrowing 53 = .ok (.iload_n 3, 1) := by decide +kernel
theorem dX1_wrapsByThrowing_54 : decode cX1_wrapsByThrowing 54 = .ok (.iload 4, 2) := by decide +kernel
theorem dX1_wrapsByThrowing_56 : decode cX1_wrapsByThrowing 56 = .ok (.iload 5, 2) := by decide +kernel
theorem dX1_wrapsByThrowing_58 : decode cX1_wrapsByThrowing 58 = .ok (.invokevirtual 105, 3) := by decide +kernel
theorem dX1_wrapsByThrowing_61 : decode cX1_wrapsByThrowing 61 = .ok (.ifCond .eq 15, 3) := by decide +kernel
theorem dX1_wrapsByThrowing_64 : decode cX1_wrapsByThrowing 64 = .ok (.aload_n 0, 1) := by decide +kernel
theorem dX1_wrapsByThrowing_65 : decode cX1_wrapsByThrowing 65 = .ok (.iload_n 3, 1) := by decide +kernel
theorem dX1_wrapsByThrowing_66 : decode cX1_wrapsByThrowing 66 = .ok (.iload 4, 2) := by decide +kernel
theorem dX1_wrapsByThrowing_68 : decode cX1_wrapsByThrowing 68 = .ok (.iload 5, 2) := by decide +kernel
theorem dX1_wrapsByThrowing_70 : decode cX1_wrapsByThrowing 70 = .ok (.invokevirtual 79, 3) := by decide +kernel
theorem dX1_wrapsByThrowing_73 : decode cX1_wrapsByThrowing 73 = .ok (.goto 5, 3) := by decide +kernel
theorem dX1_wrapsByThrowing_76 : decode cX1_wrapsByThrowing 76 = .ok (.bipush (-5), 2) := by decide +kernel
theorem dX1_wrapsByThrowing_78 : decode cX1_wrapsByThrowing 78 = .ok (.ireturn, 1) := by decide +kernel
theorem dX1_hangingWithout_0 : decode cX1_hangingWithout 0 = .ok (.aload_n 0, 1) := by decide +kernel
theorem dX1_hangingWithout_1 : decode cX1_hangingWithout 1 = .ok (.getfield 12, 3) := by decide +kernel
theorem dX1_hangingWithout_4 : decode cX1_hangingWithout 4 = .ok (.iload_n 1, 1) := by decide +kernel
theorem dX1_hangingWithout_5 : decode cX1_hangingWithout 5 = .ok (.invokevirtual 118, 3) := by decide +kernel
theorem dX1_hangingWithout_8 : decode cX1_hangingWithout 8 = .ok (.iload_n 2, 1) := by decide +kernel
theorem dX1_hangingWithout_9 : decode cX1_hangingWithout 9 = .ok (.iconst (-1), 1) := by decide +kernel
theorem dX1_hangingWithout_10 : decode cX1_hangingWithout 10 = .ok (.ixor, 1) := by decide +kernel
theorem dX1_hangingWithout_11 : decode cX1_hangingWithout 11 = .ok (.iand, 1) := by decide +kernel
theorem dX1_hangingWithout_12 : decode cX1_hangingWithout 12 = .ok (.invokestatic 121, 3) := by decide +kernel
theorem dX1_hangingWithout_15 : decode cX1_hangingWithout 15 = .ok (.aload_n 0, 1) := by decide +kernel
theorem dX1_hangingWithout_16 : decode cX1_hangingWithout 16 = .ok (.getfield 12, 3) := by decide +kernel
theorem dX1_hangingWithout_19 : decode cX1_hangingWithout 19 = .ok (.iload_n 1, 1) := by decide +kernel
theorem dX1_hangingWithout_20 : decode cX1_hangingWithout 20 = .ok (.invokevirtual 102, 3) := by decide +kernel
theorem dX1_hangingWithout_23 : decode cX1_hangingWithout 23 = .ok (.iload_n 3, 1) := by decide +kernel
theorem dX1_hangingWithout_24 : decode cX1_hangingWithout 24 = .ok (.iconst (-1), 1) := by decide +kernel
theorem dX1_hangingWithout_25 : decode cX1_hangingWithout 25 = .ok (.ixor, 1) := by decide +kernel
theorem dX1_hangingWithout_26 : decode cX1_hangingWithout 26 = .ok (.iand, 1) := by decide +kernel
theorem dX1_hangingWithout_27 : decode cX1_hangingWithout 27 = .ok (.invokestatic 121, 3) := by decide +kernel
theorem dX1_hangingWithout_30 : decode cX1_hangingWithout 30 = .ok (.iadd, 1) := by decide +kernel
theorem dX1_hangingWithout_31 : decode cX1_hangingWithout 31 = .ok (.ireturn, 1) := by decide +kernel
theorem dX1_canWrapAgain_0 : decode cX1_canWrapAgain 0 = .ok (.iconst 0, 1) := by decide +kernel
theorem dX1_canWrapAgain_1 : decode cX1_canWrapAgain 1 = .ok (.istore 4, 2) := by decide +kernel
theorem dX1_canWrapAgain_3 : decode cX1_canWrapAgain 3 = .ok (.iload 4, 2) := by decide +kernel
theorem dX1_canWrapAgain_5 : decode cX1_canWrapAgain 5 = .ok (.bipush 20, 2) := by decide +kernel
theorem dX1_canWrapAgain_7 : decode cX1_canWrapAgain 7 = .ok (.if_icmp .ge 41, 3) := by decide +kernel
theorem dX1_canWrapAgain_10 : decode cX1_canWrapAgain 10 = .ok (.iload_n 1, 1) := by decide +kernel
theorem dX1_canWrapAgain_11 : decode cX1_canWrapAgain 11 = .ok (.iload 4, 2) := by decide +kernel
theorem dX1_canWrapAgain_13 : decode cX1_canWrapAgain 13 = .ok (.invokestatic 115, 3) := by decide +kernel
theorem dX1_canWrapAgain_16 : decode cX1_canWrapAgain 16 = .ok (.ifCond .eq 26, 3) := by decide +kernel
theorem dX1_canWrapAgain_19 : decode cX1_canWrapAgain 19 = .ok (.aload_n 0, 1) := by decide +kernel
theorem dX1_canWrapAgain_20 : decode cX1_canWrapAgain 20 = .ok (.iload 4, 2) := by decide +kernel
theorem dX1_canWrapAgain_22 : decode cX1_canWrapAgain 22 = .ok (.invokestatic 66, 3) := by decide +kernel
theorem dX1_canWrapAgain_25 : decode cX1_canWrapAgain 25 = .ok (.iload_n 2, 1) := by decide +kernel
theorem dX1_canWrapAgain_26 : decode cX1_canWrapAgain 26 = .ok (.iload_n 3, 1) := by decide +kernel
theorem dX1_canWrapAgain_27 : decode cX1_canWrapAgain 27 = .ok (.invokevirtual 79, 3) := by decide +kernel
theorem dX1_canWrapAgain_30 : decode cX1_canWrapAgain 30 = .ok (.aload_n 0, 1) := by decide +kernel
theorem dX1_canWrapAgain_31 : decode cX1_canWrapAgain 31 = .ok (.getfield 12, 3) := by decide +kernel
theorem dX1_canWrapAgain_34 : decode cX1_canWrapAgain 34 = .ok (.getfield 25, 3) := by decide +kernel
theorem dX1_canWrapAgain_37 : decode cX1_canWrapAgain 37 = .ok (.if_icmp .le 5, 3) := by decide +kernel
theorem dX1_canWrapAgain_40 : decode cX1_canWrapAgain 40 = .ok (.iconst 0, 1) := by decide +kernel
theorem dX1_canWrapAgain_41 : decode cX1_canWrapAgain 41 = .ok (.ireturn, 1) := by decide +kernel
theorem dX1_canWrapAgain_42 : decode cX1_canWrapAgain 42 = .ok (.iinc 4 1, 3) := by decide +kernel
theorem dX1_canWrapAgain_45 : decode cX1_canWrapAgain 45 = .ok (.goto (-42), 3) := by decide +kernel
theorem dX1_canWrapAgain_48 : decode cX1_canWrapAgain 48 = .ok (.iconst 1, 1) := by decide +kernel
theorem dX1_canWrapAgain_49 : decode cX1_canWrapAgain 49 = .ok (.ireturn, 1) := by decide +kernel
theorem dX1_startNextMakes_0 : decode cX1_startNextMakes 0 = .ok (.iconst 0, 1) := by decide +kernel
theorem dX1_startNextMakes_1 : decode cX1_startNextMakes 1 = .ok (.istore_n 2, 1) := by decide +kernel
theorem dX1_startNextMakes_2 : decode cX1_startNextMakes 2 = .ok (.iload_n 2, 1) := by decide +kernel
theorem dX1_startNextMakes_3 : decode cX1_startNextMakes 3 = .ok (.bipush 20, 2) := by decide +kernel
theorem dX1_startNextMakes_5 : decode cX1_startNextMakes 5 = .ok (.if_icmp .ge 41, 3) := by decide +kernel
theorem dX1_startNextMakes_8 : decode cX1_startNextMakes 8 = .ok (.iload_n 1, 1) := by decide +kernel
theorem dX1_startNextMakes_9 : decode cX1_startNextMakes 9 = .ok (.iload_n 2, 1) := by decide +kernel
theorem dX1_startNextMakes_10 : decode cX1_startNextMakes 10 = .ok (.invokestatic 115, 3) := by decide +kernel
theorem dX1_startNextMakes_13 : decode cX1_startNextMakes 13 = .ok (.ifCond .eq 27, 3) := by decide +kernel
theorem dX1_startNextMakes_16 : decode cX1_startNextMakes 16 = .ok (.aload_n 0, 1) := by decide +kernel
theorem dX1_startNextMakes_17 : decode cX1_startNextMakes 17 = .ok (.getfield 12, 3) := by decide +kernel
theorem dX1_startNextMakes_20 : decode cX1_startNextMakes 20 = .ok (.iload_n 2, 1) := by decide +kernel
theorem dX1_startNextMakes_21 : decode cX1_startNextMakes 21 = .ok (.invokevirtual 126, 3) := by decide +kernel
theorem dX1_startNextMakes_24 : decode cX1_startNextMakes 24 = .ok (.aload_n 0, 1) := by decide +kernel
theorem dX1_startNextMakes_25 : decode cX1_startNextMakes 25 = .ok (.getfield 21, 3) := by decide +kernel
theorem dX1_startNextMakes_28 : decode cX1_startNextMakes 28 = .ok (.iload_n 2, 1) := by decide +kernel
theorem dX1_startNextMakes_29 : decode cX1_startNextMakes 29 = .ok (.aload_n 0, 1) := by decide +kernel
theorem dX1_startNextMakes_30 : decode cX1_startNextMakes 30 = .ok (.getfield 12, 3) := by decide +kernel
theorem dX1_startNextMakes_33 : decode cX1_startNextMakes 33 = .ok (.iload_n 2, 1) := by decide +kernel
theorem dX1_startNextMakes_34 : decode cX1_startNextMakes 34 = .ok (.invokevirtual 129, 3) := by decide +kernel
theorem dX1_startNextMakes_37 : decode cX1_startNextMakes 37 = .ok (.invokevirtual 132, 3) := by decide +kernel
theorem dX1_startNextMakes_40 : decode cX1_startNextMakes 40 = .ok (.iinc 2 1, 3) := by decide +kernel
theorem dX1_startNextMakes_43 : decode cX1_startNextMakes 43 = .ok (.goto (-41), 3) := by decide +kernel
theorem dX1_startNextMakes_46 : decode cX1_startNextMakes 46 = .ok (.return_, 1) := by decide +kernel
theorem dX1_wrapAllOn_0 : decode cX1_wrapAllOn 0 = .ok (.aload_n 0, 1) := by decide +kernel
theorem dX1_wrapAllOn_1 : decode cX1_wrapAllOn 1 = .ok (.getfield 12, 3) := by decide +kernel
theorem dX1_wrapAllOn_4 : decode cX1_wrapAllOn 4 = .ok (.iload_n 1, 1) := by decide +kernel
theorem dX1_wrapAllOn_5 : decode cX1_wrapAllOn 5 = .ok (.invokestatic 66, 3) := by decide +kernel
theorem dX1_wrapAllOn_8 : decode cX1_wrapAllOn 8 = .ok (.invokevirtual 118, 3) := by decide +kernel
theorem dX1_wrapAllOn_11 : decode cX1_wrapAllOn 11 = .ok (.istore_n 2, 1) := by decide +kernel
theorem dX1_wrapAllOn_12 : decode cX1_wrapAllOn 12 = .ok (.aload_n 0, 1) := by decide +kernel
theorem dX1_wrapAllOn_13 : decode cX1_wrapAllOn 13 = .ok (.getfield 12, 3) := by decide +kernel
theorem dX1_wrapAllOn_16 : decode cX1_wrapAllOn 16 = .ok (.iload_n 1, 1) := by decide +kernel
theorem dX1_wrapAllOn_17 : decode cX1_wrapAllOn 17 = .ok (.invokestatic 66, 3) := by decide +kernel
theorem dX1_wrapAllOn_20 : decode cX1_wrapAllOn 20 = .ok (.invokevirtual 102, 3) := by decide +kernel
theorem dX1_wrapAllOn_23 : decode cX1_wrapAllOn 23 = .ok (.istore_n 3, 1) := by decide +kernel
theorem dX1_wrapAllOn_24 : decode cX1_wrapAllOn 24 = .ok (.iconst 0, 1) := by decide +kernel
theorem dX1_wrapAllOn_25 : decode cX1_wrapAllOn 25 = .ok (.istore 4, 2) := by decide +kernel
theorem dX1_wrapAllOn_27 : decode cX1_wrapAllOn 27 = .ok (.iload 4, 2) := by decide +kernel
theorem dX1_wrapAllOn_29 : decode cX1_wrapAllOn 29 = .ok (.bipush 20, 2) := by decide +kernel
theorem dX1_wrapAllOn_31 : decode cX1_wrapAllOn 31 = .ok (.if_icmp .ge 24, 3) := by decide +kernel
theorem dX1_wrapAllOn_34 : decode cX1_wrapAllOn 34 = .ok (.iload_n 2, 1) := by decide +kernel
theorem dX1_wrapAllOn_35 : decode cX1_wrapAllOn 35 = .ok (.iload 4, 2) := by decide +kernel
theorem dX1_wrapAllOn_37 : decode cX1_wrapAllOn 37 = .ok (.invokestatic 115, 3) := by decide +kernel
theorem dX1_wrapAllOn_40 : decode cX1_wrapAllOn 40 = .ok (.ifCond .eq 9, 3) := by decide +kernel
theorem dX1_wrapAllOn_43 : decode cX1_wrapAllOn 43 = .ok (.aload_n 0, 1) := by decide +kernel
theorem dX1_wrapAllOn_44 : decode cX1_wrapAllOn 44 = .ok (.iload 4, 2) := by decide +kernel
theorem dX1_wrapAllOn_46 : decode cX1_wrapAllOn 46 = .ok (.invokevirtual 46, 3) := by decide +kernel
theorem dX1_wrapAllOn_49 : decode cX1_wrapAllOn 49 = .ok (.iinc 4 1, 3) := by decide +kernel
theorem dX1_wrapAllOn_52 : decode cX1_wrapAllOn 52 = .ok (.goto (-25), 3) := by decide +kernel
theorem dX1_wrapAllOn_55 : decode cX1_wrapAllOn 55 = .ok (.iconst 0, 1) := by decide +kernel
theorem dX1_wrapAllOn_56 : decode cX1_wrapAllOn 56 = .ok (.istore 4, 2) := by decide +kernel
theorem dX1_wrapAllOn_58 : decode cX1_wrapAllOn 58 = .ok (.iload 4, 2) := by decide +kernel
theorem dX1_wrapAllOn_60 : decode cX1_wrapAllOn 60 = .ok (.bipush 20, 2) := by decide +kernel
theorem dX1_wrapAllOn_62 : decode cX1_wrapAllOn 62 = .ok (.if_icmp .ge 24, 3) := by decide +kernel
theorem dX1_wrapAllOn_65 : decode cX1_wrapAllOn 65 = .ok (.iload_n 3, 1) := by decide +kernel
theorem dX1_wrapAllOn_66 : decode cX1_wrapAllOn 66 = .ok (.iload 4, 2) := by decide +kernel
theorem dX1_wrapAllOn_68 : decode cX1_wrapAllOn 68 = .ok (.invokestatic 115, 3) := by decide +kernel
theorem dX1_wrapAllOn_71 : decode cX1_wrapAllOn 71 = .ok (.ifCond .eq 9, 3) := by decide +kernel
theorem dX1_wrapAllOn_74 : decode cX1_wrapAllOn 74 = .ok (.aload_n 0, 1) := by decide +kernel
theorem dX1_wrapAllOn_75 : decode cX1_wrapAllOn 75 = .ok (.iload 4, 2) := by decide +kernel
theorem dX1_wrapAllOn_77 : decode cX1_wrapAllOn 77 = .ok (.invokevirtual 56, 3) := by decide +kernel
theorem dX1_wrapAllOn_80 : decode cX1_wrapAllOn 80 = .ok (.iinc 4 1, 3) := by decide +kernel
theorem dX1_wrapAllOn_83 : decode cX1_wrapAllOn 83 = .ok (.goto (-25), 3) := by decide +kernel
theorem dX1_wrapAllOn_86 : decode cX1_wrapAllOn 86 = .ok (.return_, 1) := by decide +kernel
theorem dX1_wrapKey_0 : decode cX1_wrapKey 0 = .ok (.aload_n 0, 1) := by decide +kernel
theorem dX1_wrapKey_1 : decode cX1_wrapKey 1 = .ok (.getfield 12, 3) := by decide +kernel
theorem dX1_wrapKey_4 : decode cX1_wrapKey 4 = .ok (.iload_n 1, 1) := by decide +kernel
theorem dX1_wrapKey_5 : decode cX1_wrapKey 5 = .ok (.invokevirtual 83, 3) := by decide +kernel
theorem dX1_wrapKey_8 : decode cX1_wrapKey 8 = .ok (.istore_n 2, 1) := by decide +kernel
theorem dX1_wrapKey_9 : decode cX1_wrapKey 9 = .ok (.aload_n 0, 1) := by decide +kernel
theorem dX1_wrapKey_10 : decode cX1_wrapKey 10 = .ok (.getfield 21, 3) := by decide +kernel
theorem dX1_wrapKey_13 : decode cX1_wrapKey 13 = .ok (.iload_n 1, 1) := by decide +kernel
theorem dX1_wrapKey_14 : decode cX1_wrapKey 14 = .ok (.aload_n 0, 1) := by decide +kernel
theorem dX1_wrapKey_15 : decode cX1_wrapKey 15 = .ok (.getfield 12, 3) := by decide +kernel
theorem dX1_wrapKey_18 : decode cX1_wrapKey 18 = .ok (.iload_n 1, 1) := by decide +kernel
theorem dX1_wrapKey_19 : decode cX1_wrapKey 19 = .ok (.invokevirtual 129, 3) := by decide +kernel
theorem dX1_wrapKey_22 : decode cX1_wrapKey 22 = .ok (.iload_n 2, 1) := by decide +kernel
theorem dX1_wrapKey_23 : decode cX1_wrapKey 23 = .ok (.aload_n 0, 1) := by decide +kernel
theorem dX1_wrapKey_24 : decode cX1_wrapKey 24 = .ok (.getfield 12, 3) := by decide +kernel
theorem dX1_wrapKey_27 : decode cX1_wrapKey 27 = .ok (.iload_n 2, 1) := by decide +kernel
theorem dX1_wrapKey_28 : decode cX1_wrapKey 28 = .ok (.invokevirtual 129, 3) := by decide +kernel
theorem dX1_wrapKey_31 : decode cX1_wrapKey 31 = .ok (.invokevirtual 135, 3) := by decide +kernel
theorem dX1_wrapKey_34 : decode cX1_wrapKey 34 = .ok (.aload_n 0, 1) := by decide +kernel
theorem dX1_wrapKey_35 : decode cX1_wrapKey 35 = .ok (.getfield 12, 3) := by decide +kernel
theorem dX1_wrapKey_38 : decode cX1_wrapKey 38 = .ok (.iload_n 2, 1) := by decide +kernel
theorem dX1_wrapKey_39 : decode cX1_wrapKey 39 = .ok (.invokevirtual 139, 3) := by decide +kernel
theorem dX1_wrapKey_42 : decode cX1_wrapKey 42 = .ok (.return_, 1) := by decide +kernel
theorem dX1_wrapBox_0 : decode cX1_wrapBox 0 = .ok (.aload_n 0, 1) := by decide +kernel
theorem dX1_wrapBox_1 : decode cX1_wrapBox 1 = .ok (.getfield 12, 3) := by decide +kernel
theorem dX1_wrapBox_4 : decode cX1_wrapBox 4 = .ok (.iload_n 1, 1) := by decide +kernel
theorem dX1_wrapBox_5 : decode cX1_wrapBox 5 = .ok (.invokevirtual 142, 3) := by decide +kernel
theorem dX1_wrapBox_8 : decode cX1_wrapBox 8 = .ok (.istore_n 2, 1) := by decide +kernel
theorem dX1_wrapBox_9 : decode cX1_wrapBox 9 = .ok (.aload_n 0, 1) := by decide +kernel
theorem dX1_wrapBox_10 : decode cX1_wrapBox 10 = .ok (.getfield 21, 3) := by decide +kernel
theorem dX1_wrapBox_13 : decode cX1_wrapBox 13 = .ok (.bipush (-6), 2) := by decide +kernel
theorem dX1_wrapBox_15 : decode cX1_wrapBox 15 = .ok (.iload_n 1, 1) := by decide +kernel
theorem dX1_wrapBox_16 : decode cX1_wrapBox 16 = .ok (.iload_n 2, 1) := by decide +kernel
theorem dX1_wrapBox_17 : decode cX1_wrapBox 17 = .ok (.aload_n 0, 1) := by decide +kernel
theorem dX1_wrapBox_18 : decode cX1_wrapBox 18 = .ok (.getfield 12, 3) := by decide +kernel
theorem dX1_wrapBox_21 : decode cX1_wrapBox 21 = .ok (.iload_n 2, 1) := by decide +kernel
theorem dX1_wrapBox_22 : decode cX1_wrapBox 22 = .ok (.invokevirtual 129, 3) := by decide +kernel
theorem dX1_wrapBox_25 : decode cX1_wrapBox 25 = .ok (.invokevirtual 135, 3) := by decide +kernel
theorem dX1_wrapBox_28 : decode cX1_wrapBox 28 = .ok (.aload_n 0, 1) := by decide +kernel
theorem dX1_wrapBox_29 : decode cX1_wrapBox 29 = .ok (.getfield 12, 3) := by decide +kernel
theorem dX1_wrapBox_32 : decode cX1_wrapBox 32 = .ok (.iload_n 2, 1) := by decide +kernel
theorem dX1_wrapBox_33 : decode cX1_wrapBox 33 = .ok (.invokevirtual 139, 3) := by decide +kernel
theorem dX1_wrapBox_36 : decode cX1_wrapBox 36 = .ok (.return_, 1) := by decide +kernel
theorem dX1_stepOfWay_0 : decode cX1_stepOfWay 0 = .ok (.aload_n 0, 1) := by decide +kernel
theorem dX1_stepOfWay_1 : decode cX1_stepOfWay 1 = .ok (.getfield 12, 3) := by decide +kernel
theorem dX1_stepOfWay_4 : decode cX1_stepOfWay 4 = .ok (.iload_n 1, 1) := by decide +kernel
theorem dX1_stepOfWay_5 : decode cX1_stepOfWay 5 = .ok (.invokevirtual 145, 3) := by decide +kernel
theorem dX1_stepOfWay_8 : decode cX1_stepOfWay 8 = .ok (.istore_n 3, 1) := by decide +kernel
theorem dX1_stepOfWay_9 : decode cX1_stepOfWay 9 = .ok (.iconst 0, 1) := by decide +kernel
theorem dX1_stepOfWay_10 : decode cX1_stepOfWay 10 = .ok (.istore 4, 2) := by decide +kernel
theorem dX1_stepOfWay_12 : decode cX1_stepOfWay 12 = .ok (.iconst 0, 1) := by decide +kernel
theorem dX1_stepOfWay_13 : decode cX1_stepOfWay 13 = .ok (.istore 5, 2) := by decide +kernel
theorem dX1_stepOfWay_15 : decode cX1_stepOfWay 15 = .ok (.iload 5, 2) := by decide +kernel
theorem dX1_stepOfWay_17 : decode cX1_stepOfWay 17 = .ok (.bipush 20, 2) := by decide +kernel
theorem dX1_stepOfWay_19 : decode cX1_stepOfWay 19 = .ok (.if_icmp .ge 61, 3) := by decide +kernel
theorem dX1_stepOfWay_22 : decode cX1_stepOfWay 22 = .ok (.iload_n 3, 1) := by decide +kernel
theorem dX1_stepOfWay_23 : decode cX1_stepOfWay 23 = .ok (.iload 5, 2) := by decide +kernel
theorem dX1_stepOfWay_25 : decode cX1_stepOfWay 25 = .ok (.invokestatic 115, 3) := by decide +kernel
theorem dX1_stepOfWay_28 : decode cX1_stepOfWay 28 = .ok (.ifCond .eq 46, 3) := by decide +kernel
theorem dX1_stepOfWay_31 : decode cX1_stepOfWay 31 = .ok (.aload_n 0, 1) := by decide +kernel
theorem dX1_stepOfWay_32 : decode cX1_stepOfWay 32 = .ok (.getfield 12, 3) := by decide +kernel
theorem dX1_stepOfWay_35 : decode cX1_stepOfWay 35 = .ok (.iload 5, 2) := by decide +kernel
theorem dX1_stepOfWay_37 : decode cX1_stepOfWay 37 = .ok (.invokevirtual 76, 3) := by decide +kernel
theorem dX1_stepOfWay_40 : decode cX1_stepOfWay 40 = .ok (.ifCond .eq 6, 3) := by decide +kernel
theorem dX1_stepOfWay_43 : decode cX1_stepOfWay 43 = .ok (.goto 31, 3) := by decide +kernel
theorem dX1_stepOfWay_46 : decode cX1_stepOfWay 46 = .ok (.iload 4, 2) := by decide +kernel
theorem dX1_stepOfWay_48 : decode cX1_stepOfWay 48 = .ok (.iload_n 2, 1) := by decide +kernel
theorem dX1_stepOfWay_49 : decode cX1_stepOfWay 49 = .ok (.if_icmp .ne 22, 3) := by decide +kernel
theorem dX1_stepOfWay_52 : decode cX1_stepOfWay 52 = .ok (.aload_n 0, 1) := by decide +kernel
theorem dX1_stepOfWay_53 : decode cX1_stepOfWay 53 = .ok (.getfield 21, 3) := by decide +kernel
theorem dX1_stepOfWay_56 : decode cX1_stepOfWay 56 = .ok (.iload 5, 2) := by decide +kernel
theorem dX1_stepOfWay_58 : decode cX1_stepOfWay 58 = .ok (.aload_n 0, 1) := by decide +kernel
theorem dX1_stepOfWay_59 : decode cX1_stepOfWay 59 = .ok (.getfield 12, 3) := by decide +kernel
theorem dX1_stepOfWay_62 : decode cX1_stepOfWay 62 = .ok (.iload 5, 2) := by decide +kernel
theorem dX1_stepOfWay_64 : decode cX1_stepOfWay 64 = .ok (.invokevirtual 129, 3) := by decide +kernel
theorem dX1_stepOfWay_67 : decode cX1_stepOfWay 67 = .ok (.invokevirtual 148, 3) := by decide +kernel
theorem dX1_stepOfWay_70 : decode cX1_stepOfWay 70 = .ok (.ireturn, 1) := by decide +kernel
theorem dX1_stepOfWay_71 : decode cX1_stepOfWay 71 = .ok (.iinc 4 1, 3) := by decide +kernel
theorem dX1_stepOfWay_74 : decode cX1_stepOfWay 74 = .ok (.iinc 5 1, 3) := by decide +kernel
theorem dX1_stepOfWay_77 : decode cX1_stepOfWay 77 = .ok (.goto (-62), 3) := by decide +kernel
theorem dX1_stepOfWay_80 : decode cX1_stepOfWay 80 = .ok (.iload 4, 2) := by decide +kernel
theorem dX1_stepOfWay_82 : decode cX1_stepOfWay 82 = .ok (.iload_n 2, 1) := by decide +kernel
theorem dX1_stepOfWay_83 : decode cX1_stepOfWay 83 = .ok (.if_icmp .ne 14, 3) := by decide +kernel
theorem dX1_stepOfWay_86 : decode cX1_stepOfWay 86 = .ok (.aload_n 0, 1) := by decide +kernel
theorem dX1_stepOfWay_87 : decode cX1_stepOfWay 87 = .ok (.getfield 21, 3) := by decide +kernel
theorem dX1_stepOfWay_90 : decode cX1_stepOfWay 90 = .ok (.iload_n 1, 1) := by decide +kernel
theorem dX1_stepOfWay_91 : decode cX1_stepOfWay 91 = .ok (.invokevirtual 151, 3) := by decide +kernel
theorem dX1_stepOfWay_94 : decode cX1_stepOfWay 94 = .ok (.goto 5, 3) := by decide +kernel
theorem dX1_stepOfWay_97 : decode cX1_stepOfWay 97 = .ok (.bipush (-6), 2) := by decide +kernel
theorem dX1_stepOfWay_99 : decode cX1_stepOfWay 99 = .ok (.ireturn, 1) := by decide +kernel
theorem dX1_become_0 : decode cX1_become 0 = .ok (.aload_n 1, 1) := by decide +kernel
theorem dX1_become_1 : decode cX1_become 1 = .ok (.ifnonnull 4, 3) := by decide +kernel
theorem dX1_become_4 : decode cX1_become 4 = .ok (.return_, 1) := by decide +kernel
theorem dX1_become_5 : decode cX1_become 5 = .ok (.aload_n 0, 1) := by decide +kernel
theorem dX1_become_6 : decode cX1_become 6 = .ok (.getfield 12, 3) := by decide +kernel
theorem dX1_become_9 : decode cX1_become 9 = .ok (.aload_n 1, 1) := by decide +kernel
theorem dX1_become_10 : decode cX1_become 10 = .ok (.getfield 12, 3) := by decide +kernel
theorem dX1_become_13 : decode cX1_become 13 = .ok (.invokevirtual 154, 3) := by decide +kernel
theorem dX1_become_16 : decode cX1_become 16 = .ok (.aload_n 0, 1) := by decide +kernel
theorem dX1_become_17 : decode cX1_become 17 = .ok (.getfield 21, 3) := by decide +kernel
theorem dX1_become_20 : decode cX1_become 20 = .ok (.aload_n 1, 1) := by decide +kernel
theorem dX1_become_21 : decode cX1_become 21 = .ok (.getfield 21, 3) := by decide +kernel
theorem dX1_become_24 : decode cX1_become 24 = .ok (.invokevirtual 158, 3) := by decide +kernel
theorem dX1_become_27 : decode cX1_become 27 = .ok (.return_, 1) := by decide +kernel
theorem dX2_init_0 : decode cX2_init 0 = .ok (.aload_n 0, 1) := by decide +kernel
theorem dX2_init_1 : decode cX2_init 1 = .ok (.invokespecial 3, 3) := by decide +kernel
theorem dX2_init_4 : decode cX2_init 4 = .ok (.aload_n 0, 1) := by decide +kernel
theorem dX2_init_5 : decode cX2_init 5 = .ok (.new 9, 3) := by decide +kernel
theorem dX2_init_8 : decode cX2_init 8 = .ok (.dup, 1) := by decide +kernel
theorem dX2_init_9 : decode cX2_init 9 = .ok (.bipush 20, 2) := by decide +kernel
theorem dX2_init_11 : decode cX2_init 11 = .ok (.invokespecial 11, 3) := by decide +kernel
theorem dX2_init_14 : decode cX2_init 14 = .ok (.putfield 14, 3) := by decide +kernel
theorem dX2_init_17 : decode cX2_init 17 = .ok (.aload_n 0, 1) := by decide +kernel
theorem dX2_init_18 : decode cX2_init 18 = .ok (.new 9, 3) := by decide +kernel
theorem dX2_init_21 : decode cX2_init 21 = .ok (.dup, 1) := by decide +kernel
theorem dX2_init_22 : decode cX2_init 22 = .ok (.bipush 120, 2) := by decide +kernel
theorem dX2_init_24 : decode cX2_init 24 = .ok (.invokespecial 11, 3) := by decide +kernel
theorem dX2_init_27 : decode cX2_init 27 = .ok (.putfield 20, 3) := by decide +kernel
theorem dX2_init_30 : decode cX2_init 30 = .ok (.return_, 1) := by decide +kernel
theorem dX2_boxesWith_0 : decode cX2_boxesWith 0 = .ok (.aload_n 1, 1) := by decide +kernel
theorem dX2_boxesWith_1 : decode cX2_boxesWith 1 = .ok (.ifnonnull 5, 3) := by decide +kernel
theorem dX2_boxesWith_4 : decode cX2_boxesWith 4 = .ok (.iconst 0, 1) := by decide +kernel
theorem dX2_boxesWith_5 : decode cX2_boxesWith 5 = .ok (.ireturn, 1) := by decide +kernel
theorem dX2_boxesWith_6 : decode cX2_boxesWith 6 = .ok (.aload_n 0, 1) := by decide +kernel
theorem dX2_boxesWith_7 : decode cX2_boxesWith 7 = .ok (.aload_n 1, 1) := by decide +kernel
theorem dX2_boxesWith_8 : decode cX2_boxesWith 8 = .ok (.getfield 23, 3) := by decide +kernel
theorem dX2_boxesWith_11 : decode cX2_boxesWith 11 = .ok (.invokevirtual 29, 3) := by decide +kernel
theorem dX2_boxesWith_14 : decode cX2_boxesWith 14 = .ok (.aload_n 0, 1) := by decide +kernel
theorem dX2_boxesWith_15 : decode cX2_boxesWith 15 = .ok (.aload_n 1, 1) := by decide +kernel
theorem dX2_boxesWith_16 : decode cX2_boxesWith 16 = .ok (.getfield 33, 3) := by decide +kernel
theorem dX2_boxesWith_19 : decode cX2_boxesWith 19 = .ok (.iload_n 2, 1) := by decide +kernel
theorem dX2_boxesWith_20 : decode cX2_boxesWith 20 = .ok (.bipush 8, 2) := by decide +kernel
theorem dX2_boxesWith_22 : decode cX2_boxesWith 22 = .ok (.ior, 1) := by decide +kernel
theorem dX2_boxesWith_23 : decode cX2_boxesWith 23 = .ok (.invokevirtual 37, 3) := by decide +kernel
theorem dX2_boxesWith_26 : decode cX2_boxesWith 26 = .ok (.aload_n 0, 1) := by decide +kernel
theorem dX2_boxesWith_27 : decode cX2_boxesWith 27 = .ok (.aload_n 1, 1) := by decide +kernel
theorem dX2_boxesWith_28 : decode cX2_boxesWith 28 = .ok (.getfield 33, 3) := by decide +kernel
theorem dX2_boxesWith_31 : decode cX2_boxesWith 31 = .ok (.invokevirtual 41, 3) := by decide +kernel
theorem dX2_boxesWith_34 : decode cX2_boxesWith 34 = .ok (.ireturn, 1) := by decide +kernel
theorem dX2_canHaveKey_0 : decode cX2_canHaveKey 0 = .ok (.aload_n 1, 1) := by decide +kernel
theorem dX2_canHaveKey_1 : decode cX2_canHaveKey 1 = .ok (.ifnonnull 5, 3) := by decide +kernel
theorem dX2_canHaveKey_4 : decode cX2_canHaveKey 4 = .ok (.iconst 0, 1) := by decide +kernel
theorem dX2_canHaveKey_5 : decode cX2_canHaveKey 5 = .ok (.ireturn, 1) := by decide +kernel
theorem dX2_canHaveKey_6 : decode cX2_canHaveKey 6 = .ok (.aload_n 0, 1) := by decide +kernel
theorem dX2_canHaveKey_7 : decode cX2_canHaveKey 7 = .ok (.aload_n 1, 1) := by decide +kernel
theorem dX2_canHaveKey_8 : decode cX2_canHaveKey 8 = .ok (.getfield 23, 3) := by decide +kernel
theorem dX2_canHaveKey_11 : decode cX2_canHaveKey 11 = .ok (.invokevirtual 29, 3) := by decide +kernel
theorem dX2_canHaveKey_14 : decode cX2_canHaveKey 14 = .ok (.aload_n 0, 1) := by decide +kernel
theorem dX2_canHaveKey_15 : decode cX2_canHaveKey 15 = .ok (.aload_n 1, 1) := by decide +kernel
theorem dX2_canHaveKey_16 : decode cX2_canHaveKey 16 = .ok (.getfield 33, 3) := by decide +kernel
theorem dX2_canHaveKey_19 : decode cX2_canHaveKey 19 = .ok (.iload 4, 2) := by decide +kernel
theorem dX2_canHaveKey_21 : decode cX2_canHaveKey 21 = .ok (.bipush 8, 2) := by decide +kernel
theorem dX2_canHaveKey_23 : decode cX2_canHaveKey 23 = .ok (.ior, 1) := by decide +kernel
theorem dX2_canHaveKey_24 : decode cX2_canHaveKey 24 = .ok (.invokevirtual 37, 3) := by decide +kernel
theorem dX2_canHaveKey_27 : decode cX2_canHaveKey 27 = .ok (.aload_n 0, 1) := by decide +kernel
theorem dX2_canHaveKey_28 : decode cX2_canHaveKey 28 = .ok (.aload_n 1, 1) := by decide +kernel
theorem dX2_canHaveKey_29 : decode cX2_canHaveKey 29 = .ok (.getfield 33, 3) := by decide +kernel
theorem dX2_canHaveKey_32 : decode cX2_canHaveKey 32 = .ok (.iload_n 2, 1) := by decide +kernel
theorem dX2_canHaveKey_33 : decode cX2_canHaveKey 33 = .ok (.iload_n 3, 1) := by decide +kernel
theorem dX2_canHaveKey_34 : decode cX2_canHaveKey 34 = .ok (.invokevirtual 45, 3) := by decide +kernel
theorem dX2_canHaveKey_37 : decode cX2_canHaveKey 37 = .ok (.ireturn, 1) := by decide +kernel
theorem dX2_boxesByLeak_0 : decode cX2_boxesByLeak 0 = .ok (.aload_n 1, 1) := by decide +kernel
theorem dX2_boxesByLeak_1 : decode cX2_boxesByLeak 1 = .ok (.ifnonnull 5, 3) := by decide +kernel
theorem dX2_boxesByLeak_4 : decode cX2_boxesByLeak 4 = .ok (.iconst 0, 1) := by decide +kernel
theorem dX2_boxesByLeak_5 : decode cX2_boxesByLeak 5 = .ok (.ireturn, 1) := by decide +kernel
theorem dX2_boxesByLeak_6 : decode cX2_boxesByLeak 6 = .ok (.aload_n 0, 1) := by decide +kernel
theorem dX2_boxesByLeak_7 : decode cX2_boxesByLeak 7 = .ok (.getfield 14, 3) := by decide +kernel
theorem dX2_boxesByLeak_10 : decode cX2_boxesByLeak 10 = .ok (.bipush (-6), 2) := by decide +kernel
theorem dX2_boxesByLeak_12 : decode cX2_boxesByLeak 12 = .ok (.invokevirtual 49, 3) := by decide +kernel
theorem dX2_boxesByLeak_15 : decode cX2_boxesByLeak 15 = .ok (.aload_n 0, 1) := by decide +kernel
theorem dX2_boxesByLeak_16 : decode cX2_boxesByLeak 16 = .ok (.getfield 14, 3) := by decide +kernel
theorem dX2_boxesByLeak_19 : decode cX2_boxesByLeak 19 = .ok (.iload_n 2, 1) := by decide +kernel
theorem dX2_boxesByLeak_20 : decode cX2_boxesByLeak 20 = .ok (.iload_n 3, 1) := by decide +kernel
theorem dX2_boxesByLeak_21 : decode cX2_boxesByLeak 21 = .ok (.invokevirtual 52, 3) := by decide +kernel
theorem dX2_boxesByLeak_24 : decode cX2_boxesByLeak 24 = .ok (.aload_n 0, 1) := by decide +kernel
theorem dX2_boxesByLeak_25 : decode cX2_boxesByLeak 25 = .ok (.aload_n 1, 1) := by decide +kernel
theorem dX2_boxesByLeak_26 : decode cX2_boxesByLeak 26 = .ok (.getfield 33, 3) := by decide +kernel
theorem dX2_boxesByLeak_29 : decode cX2_boxesByLeak 29 = .ok (.iload 4, 2) := by decide +kernel
theorem dX2_boxesByLeak_31 : decode cX2_boxesByLeak 31 = .ok (.invokevirtual 37, 3) := by decide +kernel
theorem dX2_boxesByLeak_34 : decode cX2_boxesByLeak 34 = .ok (.aload_n 0, 1) := by decide +kernel
theorem dX2_boxesByLeak_35 : decode cX2_boxesByLeak 35 = .ok (.aload_n 1, 1) := by decide +kernel
theorem dX2_boxesByLeak_36 : decode cX2_boxesByLeak 36 = .ok (.getfield 33, 3) := by decide +kernel
theorem dX2_boxesByLeak_39 : decode cX2_boxesByLeak 39 = .ok (.invokevirtual 41, 3) := by decide +kernel
theorem dX2_boxesByLeak_42 : decode cX2_boxesByLeak 42 = .ok (.ireturn, 1) := by decide +kernel
theorem dX2_startFromSafe_0 : decode cX2_startFromSafe 0 = .ok (.aload_n 0, 1) := by decide +kernel
theorem dX2_startFromSafe_1 : decode cX2_startFromSafe 1 = .ok (.getfield 14, 3) := by decide +kernel
theorem dX2_startFromSafe_4 : decode cX2_startFromSafe 4 = .ok (.bipush (-6), 2) := by decide +kernel
theorem dX2_startFromSafe_6 : decode cX2_startFromSafe 6 = .ok (.invokevirtual 49, 3) := by decide +kernel
theorem dX2_startFromSafe_9 : decode cX2_startFromSafe 9 = .ok (.iconst 0, 1) := by decide +kernel
theorem dX2_startFromSafe_10 : decode cX2_startFromSafe 10 = .ok (.istore_n 2, 1) := by decide +kernel
theorem dX2_startFromSafe_11 : decode cX2_startFromSafe 11 = .ok (.iload_n 2, 1) := by decide +kernel
theorem dX2_startFromSafe_12 : decode cX2_startFromSafe 12 = .ok (.bipush 20, 2) := by decide +kernel
theorem dX2_startFromSafe_14 : decode cX2_startFromSafe 14 = .ok (.if_icmp .ge 38, 3) := by decide +kernel
theorem dX2_startFromSafe_17 : decode cX2_startFromSafe 17 = .ok (.aload_n 1, 1) := by decide +kernel
theorem dX2_startFromSafe_18 : decode cX2_startFromSafe 18 = .ok (.iload_n 2, 1) := by decide +kernel
theorem dX2_startFromSafe_19 : decode cX2_startFromSafe 19 = .ok (.invokevirtual 56, 3) := by decide +kernel
theorem dX2_startFromSafe_22 : decode cX2_startFromSafe 22 = .ok (.ifCond .eq 24, 3) := by decide +kernel
theorem dX2_startFromSafe_25 : decode cX2_startFromSafe 25 = .ok (.aload_n 1, 1) := by decide +kernel
theorem dX2_startFromSafe_26 : decode cX2_startFromSafe 26 = .ok (.iload_n 2, 1) := by decide +kernel
theorem dX2_startFromSafe_27 : decode cX2_startFromSafe 27 = .ok (.invokevirtual 62, 3) := by decide +kernel
theorem dX2_startFromSafe_30 : decode cX2_startFromSafe 30 = .ok (.ifCond .eq 16, 3) := by decide +kernel
theorem dX2_startFromSafe_33 : decode cX2_startFromSafe 33 = .ok (.aload_n 0, 1) := by decide +kernel
theorem dX2_startFromSafe_34 : decode cX2_startFromSafe 34 = .ok (.getfield 14, 3) := by decide +kernel
theorem dX2_startFromSafe_37 : decode cX2_startFromSafe 37 = .ok (.iload_n 2, 1) := by decide +kernel
theorem dX2_startFromSafe_38 : decode cX2_startFromSafe 38 = .ok (.aload_n 1, 1) := by decide +kernel
theorem dX2_startFromSafe_39 : decode cX2_startFromSafe 39 = .ok (.iload_n 2, 1) := by decide +kernel
theorem dX2_startFromSafe_40 : decode cX2_startFromSafe 40 = .ok (.invokevirtual 65, 3) := by decide +kernel
theorem dX2_startFromSafe_43 : decode cX2_startFromSafe 43 = .ok (.invokevirtual 52, 3) := by decide +kernel
theorem dX2_startFromSafe_46 : decode cX2_startFromSafe 46 = .ok (.iinc 2 1, 3) := by decide +kernel
theorem dX2_startFromSafe_49 : decode cX2_startFromSafe 49 = .ok (.goto (-38), 3) := by decide +kernel
theorem dX2_startFromSafe_52 : decode cX2_startFromSafe 52 = .ok (.return_, 1) := by decide +kernel
theorem dX2_openAll_0 : decode cX2_openAll 0 = .ok (.aload_n 0, 1) := by decide +kernel
theorem dX2_openAll_1 : decode cX2_openAll 1 = .ok (.getfield 20, 3) := by decide +kernel
theorem dX2_openAll_4 : decode cX2_openAll 4 = .ok (.iconst 0, 1) := by decide +kernel
theorem dX2_openAll_5 : decode cX2_openAll 5 = .ok (.invokevirtual 49, 3) := by decide +kernel
theorem dX2_openAll_8 : decode cX2_openAll 8 = .ok (.iconst 0, 1) := by decide +kernel
theorem dX2_openAll_9 : decode cX2_openAll 9 = .ok (.istore_n 3, 1) := by decide +kernel
theorem dX2_openAll_10 : decode cX2_openAll 10 = .ok (.iload_n 3, 1) := by decide +kernel
theorem dX2_openAll_11 : decode cX2_openAll 11 = .ok (.bipush 20, 2) := by decide +kernel
theorem dX2_openAll_13 : decode cX2_openAll 13 = .ok (.if_icmp .ge 16, 3) := by decide +kernel
theorem dX2_openAll_16 : decode cX2_openAll 16 = .ok (.aload_n 0, 1) := by decide +kernel
theorem dX2_openAll_17 : decode cX2_openAll 17 = .ok (.aload_n 1, 1) := by decide +kernel
theorem dX2_openAll_18 : decode cX2_openAll 18 = .ok (.iload_n 3, 1) := by decide +kernel
theorem dX2_openAll_19 : decode cX2_openAll 19 = .ok (.iload_n 2, 1) := by decide +kernel
theorem dX2_openAll_20 : decode cX2_openAll 20 = .ok (.invokevirtual 69, 3) := by decide +kernel
theorem dX2_openAll_23 : decode cX2_openAll 23 = .ok (.iinc 3 1, 3) := by decide +kernel
theorem dX2_openAll_26 : decode cX2_openAll 26 = .ok (.goto (-16), 3) := by decide +kernel
theorem dX2_openAll_29 : decode cX2_openAll 29 = .ok (.aload_n 0, 1) := by decide +kernel
theorem dX2_openAll_30 : decode cX2_openAll 30 = .ok (.aload_n 1, 1) := by decide +kernel
theorem dX2_openAll_31 : decode cX2_openAll 31 = .ok (.bipush (-6), 2) := by decide +kernel
theorem dX2_openAll_33 : decode cX2_openAll 33 = .ok (.iload_n 2, 1) := by decide +kernel
theorem dX2_openAll_34 : decode cX2_openAll 34 = .ok (.invokevirtual 69, 3) := by decide +kernel
theorem dX2_openAll_37 : decode cX2_openAll 37 = .ok (.return_, 1) := by decide +kernel
theorem dX2_openHolding_0 : decode cX2_openHolding 0 = .ok (.iconst 0, 1) := by decide +kernel
theorem dX2_openHolding_1 : decode cX2_openHolding 1 = .ok (.istore 4, 2) := by decide +kernel
theorem dX2_openHolding_3 : decode cX2_openHolding 3 = .ok (.iload 4, 2) := by decide +kernel
theorem dX2_openHolding_5 : decode cX2_openHolding 5 = .ok (.aload_n 1, 1) := by decide +kernel
theorem dX2_openHolding_6 : decode cX2_openHolding 6 = .ok (.getfield 73, 3) := by decide +kernel
theorem dX2_openHolding_9 : decode cX2_openHolding 9 = .ok (.if_icmp .ge 59, 3) := by decide +kernel
theorem dX2_openHolding_12 : decode cX2_openHolding 12 = .ok (.aload_n 1, 1) := by decide +kernel
theorem dX2_openHolding_13 : decode cX2_openHolding 13 = .ok (.iload 4, 2) := by decide +kernel
theorem dX2_openHolding_15 : decode cX2_openHolding 15 = .ok (.invokevirtual 79, 3) := by decide +kernel
theorem dX2_openHolding_18 : decode cX2_openHolding 18 = .ok (.iload_n 2, 1) := by decide +kernel
theorem dX2_openHolding_19 : decode cX2_openHolding 19 = .ok (.if_icmp .ne 43, 3) := by decide +kernel
theorem dX2_openHolding_22 : decode cX2_openHolding 22 = .ok (.aload_n 1, 1) := by decide +kernel
theorem dX2_openHolding_23 : decode cX2_openHolding 23 = .ok (.iload 4, 2) := by decide +kernel
theorem dX2_openHolding_25 : decode cX2_openHolding 25 = .ok (.iload_n 3, 1) := by decide +kernel
theorem dX2_openHolding_26 : decode cX2_openHolding 26 = .ok (.invokevirtual 82, 3) := by decide +kernel
theorem dX2_openHolding_29 : decode cX2_openHolding 29 = .ok (.ifCond .eq 33, 3) := by decide +kernel
theorem dX2_openHolding_32 : decode cX2_openHolding 32 = .ok (.aload_n 0, 1) := by decide +kernel
theorem dX2_openHolding_33 : decode cX2_openHolding 33 = .ok (.aload_n 1, 1) := by decide +kernel
theorem dX2_openHolding_34 : decode cX2_openHolding 34 = .ok (.aload_n 1, 1) := by decide +kernel
theorem dX2_openHolding_35 : decode cX2_openHolding 35 = .ok (.iload 4, 2) := by decide +kernel
theorem dX2_openHolding_37 : decode cX2_openHolding 37 = .ok (.invokevirtual 86, 3) := by decide +kernel
theorem dX2_openHolding_40 : decode cX2_openHolding 40 = .ok (.aload_n 1, 1) := by decide +kernel
theorem dX2_openHolding_41 : decode cX2_openHolding 41 = .ok (.iload 4, 2) := by decide +kernel
theorem dX2_openHolding_43 : decode cX2_openHolding 43 = .ok (.invokevirtual 89, 3) := by decide +kernel
theorem dX2_openHolding_46 : decode cX2_openHolding 46 = .ok (.invokevirtual 45, 3) := by decide +kernel
theorem dX2_openHolding_49 : decode cX2_openHolding 49 = .ok (.ifCond .eq 13, 3) := by decide +kernel
theorem dX2_openHolding_52 : decode cX2_openHolding 52 = .ok (.aload_n 0, 1) := by decide +kernel
theorem dX2_openHolding_53 : decode cX2_openHolding 53 = .ok (.getfield 20, 3) := by decide +kernel
theorem dX2_openHolding_56 : decode cX2_openHolding 56 = .ok (.iload 4, 2) := by decide +kernel
theorem dX2_openHolding_58 : decode cX2_openHolding 58 = .ok (.iconst 1, 1) := by decide +kernel
theorem dX2_openHolding_59 : decode cX2_openHolding 59 = .ok (.invokevirtual 52, 3) := by decide +kernel
theorem dX2_openHolding_62 : decode cX2_openHolding 62 = .ok (.iinc 4 1, 3) := by decide +kernel
theorem dX2_openHolding_65 : decode cX2_openHolding 65 = .ok (.goto (-62), 3) := by decide +kernel
theorem dX2_openHolding_68 : decode cX2_openHolding 68 = .ok (.return_, 1) := by decide +kernel
theorem dX2_isHad_0 : decode cX2_isHad 0 = .ok (.aload_n 0, 1) := by decide +kernel
theorem dX2_isHad_1 : decode cX2_isHad 1 = .ok (.getfield 14, 3) := by decide +kernel
theorem dX2_isHad_4 : decode cX2_isHad 4 = .ok (.iload_n 2, 1) := by decide +kernel
theorem dX2_isHad_5 : decode cX2_isHad 5 = .ok (.invokevirtual 92, 3) := by decide +kernel
theorem dX2_isHad_8 : decode cX2_isHad 8 = .ok (.iload_n 3, 1) := by decide +kernel
theorem dX2_isHad_9 : decode cX2_isHad 9 = .ok (.if_icmp .ne 5, 3) := by decide +kernel
theorem dX2_isHad_12 : decode cX2_isHad 12 = .ok (.iconst 1, 1) := by decide +kernel
theorem dX2_isHad_13 : decode cX2_isHad 13 = .ok (.ireturn, 1) := by decide +kernel
theorem dX2_isHad_14 : decode cX2_isHad 14 = .ok (.iconst 0, 1) := by decide +kernel
theorem dX2_isHad_15 : decode cX2_isHad 15 = .ok (.istore 4, 2) := by decide +kernel
theorem dX2_isHad_17 : decode cX2_isHad 17 = .ok (.iload 4, 2) := by decide +kernel
theorem dX2_isHad_19 : decode cX2_isHad 19 = .ok (.aload_n 1, 1) := by decide +kernel
theorem dX2_isHad_20 : decode cX2_isHad 20 = .ok (.getfield 73, 3) := by decide +kernel
theorem dX2_isHad_23 : decode cX2_isHad 23 = .ok (.if_icmp .ge 34, 3) := by decide +kernel
theorem dX2_isHad_26 : decode cX2_isHad 26 = .ok (.aload_n 0, 1) := by decide +kernel
theorem dX2_isHad_27 : decode cX2_isHad 27 = .ok (.getfield 20, 3) := by decide +kernel
theorem dX2_isHad_30 : decode cX2_isHad 30 = .ok (.iload 4, 2) := by decide +kernel
theorem dX2_isHad_32 : decode cX2_isHad 32 = .ok (.invokevirtual 92, 3) := by decide +kernel
theorem dX2_isHad_35 : decode cX2_isHad 35 = .ok (.ifCond .eq 16, 3) := by decide +kernel
theorem dX2_isHad_38 : decode cX2_isHad 38 = .ok (.aload_n 1, 1) := by decide +kernel
theorem dX2_isHad_39 : decode cX2_isHad 39 = .ok (.iload 4, 2) := by decide +kernel
theorem dX2_isHad_41 : decode cX2_isHad 41 = .ok (.iload_n 2, 1) := by decide +kernel
theorem dX2_isHad_42 : decode cX2_isHad 42 = .ok (.iload_n 3, 1) := by decide +kernel
theorem dX2_isHad_43 : decode cX2_isHad 43 = .ok (.invokevirtual 95, 3) := by decide +kernel
theorem dX2_isHad_46 : decode cX2_isHad 46 = .ok (.ifCond .eq 5, 3) := by decide +kernel
theorem dX2_isHad_49 : decode cX2_isHad 49 = .ok (.iconst 1, 1) := by decide +kernel
theorem dX2_isHad_50 : decode cX2_isHad 50 = .ok (.ireturn, 1) := by decide +kernel
theorem dX2_isHad_51 : decode cX2_isHad 51 = .ok (.iinc 4 1, 3) := by decide +kernel
theorem dX2_isHad_54 : decode cX2_isHad 54 = .ok (.goto (-37), 3) := by decide +kernel
theorem dX2_isHad_57 : decode cX2_isHad 57 = .ok (.iconst 0, 1) := by decide +kernel
theorem dX2_isHad_58 : decode cX2_isHad 58 = .ok (.ireturn, 1) := by decide +kernel
theorem dX2_openedBoxes_0 : decode cX2_openedBoxes 0 = .ok (.iconst 0, 1) := by decide +kernel
theorem dX2_openedBoxes_1 : decode cX2_openedBoxes 1 = .ok (.istore_n 2, 1) := by decide +kernel
theorem dX2_openedBoxes_2 : decode cX2_openedBoxes 2 = .ok (.iconst 0, 1) := by decide +kernel
theorem dX2_openedBoxes_3 : decode cX2_openedBoxes 3 = .ok (.istore_n 3, 1) := by decide +kernel
theorem dX2_openedBoxes_4 : decode cX2_openedBoxes 4 = .ok (.iload_n 3, 1) := by decide +kernel
theorem dX2_openedBoxes_5 : decode cX2_openedBoxes 5 = .ok (.aload_n 1, 1) := by decide +kernel
theorem dX2_openedBoxes_6 : decode cX2_openedBoxes 6 = .ok (.getfield 73, 3) := by decide +kernel
theorem dX2_openedBoxes_9 : decode cX2_openedBoxes 9 = .ok (.if_icmp .ge 41, 3) := by decide +kernel
theorem dX2_openedBoxes_12 : decode cX2_openedBoxes 12 = .ok (.aload_n 0, 1) := by decide +kernel
theorem dX2_openedBoxes_13 : decode cX2_openedBoxes 13 = .ok (.getfield 20, 3) := by decide +kernel
theorem dX2_openedBoxes_16 : decode cX2_openedBoxes 16 = .ok (.iload_n 3, 1) := by decide +kernel
theorem dX2_openedBoxes_17 : decode cX2_openedBoxes 17 = .ok (.invokevirtual 92, 3) := by decide +kernel
theorem dX2_openedBoxes_20 : decode cX2_openedBoxes 20 = .ok (.ifCond .eq 24, 3) := by decide +kernel
theorem dX2_openedBoxes_23 : decode cX2_openedBoxes 23 = .ok (.aload_n 1, 1) := by decide +kernel
theorem dX2_openedBoxes_24 : decode cX2_openedBoxes 24 = .ok (.iload_n 3, 1) := by decide +kernel
theorem dX2_openedBoxes_25 : decode cX2_openedBoxes 25 = .ok (.invokevirtual 79, 3) := by decide +kernel
theorem dX2_openedBoxes_28 : decode cX2_openedBoxes 28 = .ok (.bipush (-6), 2) := by decide +kernel
theorem dX2_openedBoxes_30 : decode cX2_openedBoxes 30 = .ok (.if_icmp .ne 14, 3) := by decide +kernel
theorem dX2_openedBoxes_33 : decode cX2_openedBoxes 33 = .ok (.iload_n 2, 1) := by decide +kernel
theorem dX2_openedBoxes_34 : decode cX2_openedBoxes 34 = .ok (.aload_n 1, 1) := by decide +kernel
theorem dX2_openedBoxes_35 : decode cX2_openedBoxes 35 = .ok (.iload_n 3, 1) := by decide +kernel
theorem dX2_openedBoxes_36 : decode cX2_openedBoxes 36 = .ok (.invokevirtual 99, 3) := by decide +kernel
theorem dX2_openedBoxes_39 : decode cX2_openedBoxes 39 = .ok (.invokestatic 102, 3) := by decide +kernel
theorem dX2_openedBoxes_42 : decode cX2_openedBoxes 42 = .ok (.ior, 1) := by decide +kernel
theorem dX2_openedBoxes_43 : decode cX2_openedBoxes 43 = .ok (.istore_n 2, 1) := by decide +kernel
theorem dX2_openedBoxes_44 : decode cX2_openedBoxes 44 = .ok (.iinc 3 1, 3) := by decide +kernel
theorem dX2_openedBoxes_47 : decode cX2_openedBoxes 47 = .ok (.goto (-43), 3) := by decide +kernel
theorem dX2_openedBoxes_50 : decode cX2_openedBoxes 50 = .ok (.iload_n 2, 1) := by decide +kernel
theorem dX2_openedBoxes_51 : decode cX2_openedBoxes 51 = .ok (.ireturn, 1) := by decide +kernel
theorem dX3_init_0 : decode cX3_init 0 = .ok (.aload_n 0, 1) := by decide +kernel
theorem dX3_init_1 : decode cX3_init 1 = .ok (.invokespecial 3, 3) := by decide +kernel
theorem dX3_init_4 : decode cX3_init 4 = .ok (.aload_n 0, 1) := by decide +kernel
theorem dX3_init_5 : decode cX3_init 5 = .ok (.new 9, 3) := by decide +kernel
theorem dX3_init_8 : decode cX3_init 8 = .ok (.dup, 1) := by decide +kernel
theorem dX3_init_9 : decode cX3_init 9 = .ok (.bipush 60, 2) := by decide +kernel
theorem dX3_init_11 : decode cX3_init 11 = .ok (.invokespecial 11, 3) := by decide +kernel
theorem dX3_init_14 : decode cX3_init 14 = .ok (.putfield 14, 3) := by decide +kernel
theorem dX3_init_17 : decode cX3_init 17 = .ok (.aload_n 0, 1) := by decide +kernel
theorem dX3_init_18 : decode cX3_init 18 = .ok (.iconst 0, 1) := by decide +kernel
theorem dX3_init_19 : decode cX3_init 19 = .ok (.putfield 20, 3) := by decide +kernel
theorem dX3_init_22 : decode cX3_init 22 = .ok (.aload_n 0, 1) := by decide +kernel
theorem dX3_init_23 : decode cX3_init 23 = .ok (.iconst 0, 1) := by decide +kernel
theorem dX3_init_24 : decode cX3_init 24 = .ok (.putfield 24, 3) := by decide +kernel
theorem dX3_init_27 : decode cX3_init 27 = .ok (.aload_n 0, 1) := by decide +kernel
theorem dX3_init_28 : decode cX3_init 28 = .ok (.iconst 0, 1) := by decide +kernel
theorem dX3_init_29 : decode cX3_init 29 = .ok (.putfield 27, 3) := by decide +kernel
theorem dX3_init_32 : decode cX3_init 32 = .ok (.aload_n 0, 1) := by decide +kernel
theorem dX3_init_33 : decode cX3_init 33 = .ok (.iconst 0, 1) := by decide +kernel
theorem dX3_init_34 : decode cX3_init 34 = .ok (.putfield 30, 3) := by decide +kernel
theorem dX3_init_37 : decode cX3_init 37 = .ok (.aload_n 0, 1) := by decide +kernel
theorem dX3_init_38 : decode cX3_init 38 = .ok (.iconst 0, 1) := by decide +kernel
theorem dX3_init_39 : decode cX3_init 39 = .ok (.putfield 33, 3) := by decide +kernel
theorem dX3_init_42 : decode cX3_init 42 = .ok (.return_, 1) := by decide +kernel
theorem dX3_append_0 : decode cX3_append 0 = .ok (.lload_n 1, 1) := by decide +kernel
theorem dX3_append_1 : decode cX3_append 1 = .ok (.invokestatic 36, 3) := by decide +kernel
theorem dX3_append_4 : decode cX3_append 4 = .ok (.istore_n 3, 1) := by decide +kernel
theorem dX3_append_5 : decode cX3_append 5 = .ok (.iload_n 3, 1) := by decide +kernel
theorem dX3_append_6 : decode cX3_append 6 = .ok (.ifCond .gt 6, 3) := by decide +kernel
theorem dX3_append_9 : decode cX3_append 9 = .ok (.bipush (-2), 2) := by decide +kernel
theorem dX3_append_11 : decode cX3_append 11 = .ok (.ireturn, 1) := by decide +kernel
theorem dX3_append_12 : decode cX3_append 12 = .ok (.aload_n 0, 1) := by decide +kernel
theorem dX3_append_13 : decode cX3_append 13 = .ok (.getfield 20, 3) := by decide +kernel
theorem dX3_append_16 : decode cX3_append 16 = .ok (.iload_n 3, 1) := by decide +kernel
theorem dX3_append_17 : decode cX3_append 17 = .ok (.iadd, 1) := by decide +kernel
theorem dX3_append_18 : decode cX3_append 18 = .ok (.bipush 60, 2) := by decide +kernel
theorem dX3_append_20 : decode cX3_append 20 = .ok (.if_icmp .le 6, 3) := by decide +kernel
theorem dX3_append_23 : decode cX3_append 23 = .ok (.bipush (-4), 2) := by decide +kernel
theorem dX3_append_25 : decode cX3_append 25 = .ok (.ireturn, 1) := by decide +kernel
theorem dX3_append_26 : decode cX3_append 26 = .ok (.iconst 0, 1) := by decide +kernel
theorem dX3_append_27 : decode cX3_append 27 = .ok (.istore 4, 2) := by decide +kernel
theorem dX3_append_29 : decode cX3_append 29 = .ok (.iload 4, 2) := by decide +kernel
theorem dX3_append_31 : decode cX3_append 31 = .ok (.iload_n 3, 1) := by decide +kernel
theorem dX3_append_32 : decode cX3_append 32 = .ok (.if_icmp .ge 33, 3) := by decide +kernel
theorem dX3_append_35 : decode cX3_append 35 = .ok (.aload_n 0, 1) := by decide +kernel
theorem dX3_append_36 : decode cX3_append 36 = .ok (.getfield 14, 3) := by decide +kernel
theorem dX3_append_39 : decode cX3_append 39 = .ok (.aload_n 0, 1) := by decide +kernel
theorem dX3_append_40 : decode cX3_append 40 = .ok (.getfield 20, 3) := by decide +kernel
theorem dX3_append_43 : decode cX3_append 43 = .ok (.iload 4, 2) := by decide +kernel
theorem dX3_append_45 : decode cX3_append 45 = .ok (.iadd, 1) := by decide +kernel
theorem dX3_append_46 : decode cX3_append 46 = .ok (.lload_n 1, 1) := by decide +kernel
theorem dX3_append_47 : decode cX3_append 47 = .ok (.iload_n 3, 1) := by decide +kernel
theorem dX3_append_48 : decode cX3_append 48 = .ok (.iconst 1, 1) := by decide +kernel
theorem dX3_append_49 : decode cX3_append 49 = .ok (.isub, 1) := by decide +kernel
theorem dX3_append_50 : decode cX3_append 50 = .ok (.iload 4, 2) := by decide +kernel
theorem dX3_append_52 : decode cX3_append 52 = .ok (.isub, 1) := by decide +kernel
theorem dX3_append_53 : decode cX3_append 53 = .ok (.invokestatic 40, 3) := by decide +kernel
theorem dX3_append_56 : decode cX3_append 56 = .ok (.invokevirtual 44, 3) := by decide +kernel
theorem dX3_append_59 : decode cX3_append 59 = .ok (.iinc 4 1, 3) := by decide +kernel
theorem dX3_append_62 : decode cX3_append 62 = .ok (.goto (-33), 3) := by decide +kernel
theorem dX3_append_65 : decode cX3_append 65 = .ok (.aload_n 0, 1) := by decide +kernel
theorem dX3_append_66 : decode cX3_append 66 = .ok (.dup, 1) := by decide +kernel
theorem dX3_append_67 : decode cX3_append 67 = .ok (.getfield 20, 3) := by decide +kernel
theorem dX3_append_70 : decode cX3_append 70 = .ok (.iload_n 3, 1) := by decide +kernel
theorem dX3_append_71 : decode cX3_append 71 = .ok (.iadd, 1) := by decide +kernel
theorem dX3_append_72 : decode cX3_append 72 = .ok (.putfield 20, 3) := by decide +kernel
theorem dX3_append_75 : decode cX3_append 75 = .ok (.aload_n 0, 1) := by decide +kernel
theorem dX3_append_76 : decode cX3_append 76 = .ok (.getfield 20, 3) := by decide +kernel
theorem dX3_append_79 : decode cX3_append 79 = .ok (.ireturn, 1) := by decide +kernel
theorem dX3_signFromRight_0 : decode cX3_signFromRight 0 = .ok (.lload_n 0, 1) := by decide +kernel
theorem dX3_signFromRight_1 : decode cX3_signFromRight 1 = .ok (.bipush 8, 2) := by decide +kernel
theorem dX3_signFromRight_3 : decode cX3_signFromRight 3 = .ok (.iload_n 2, 1) := by decide +kernel
theorem dX3_signFromRight_4 : decode cX3_signFromRight 4 = .ok (.imul, 1) := by decide +kernel
theorem dX3_signFromRight_5 : decode cX3_signFromRight 5 = .ok (.lushr, 1) := by decide +kernel
theorem dX3_signFromRight_6 : decode cX3_signFromRight 6 = .ok (.ldc2_w 48, 3) := by decide +kernel
theorem dX3_signFromRight_9 : decode cX3_signFromRight 9 = .ok (.land, 1) := by decide +kernel
theorem dX3_signFromRight_10 : decode cX3_signFromRight 10 = .ok (.l2i, 1) := by decide +kernel
theorem dX3_signFromRight_11 : decode cX3_signFromRight 11 = .ok (.ireturn, 1) := by decide +kernel
theorem dX3_charactersIn_0 : decode cX3_charactersIn 0 = .ok (.iconst 0, 1) := by decide +kernel
theorem dX3_charactersIn_1 : decode cX3_charactersIn 1 = .ok (.istore_n 2, 1) := by decide +kernel
theorem dX3_charactersIn_2 : decode cX3_charactersIn 2 = .ok (.iload_n 2, 1) := by decide +kernel
theorem dX3_charactersIn_3 : decode cX3_charactersIn 3 = .ok (.bipush 8, 2) := by decide +kernel
theorem dX3_charactersIn_5 : decode cX3_charactersIn 5 = .ok (.if_icmp .ge 50, 3) := by decide +kernel
theorem dX3_charactersIn_8 : decode cX3_charactersIn 8 = .ok (.lload_n 0, 1) := by decide +kernel
theorem dX3_charactersIn_9 : decode cX3_charactersIn 9 = .ok (.iload_n 2, 1) := by decide +kernel
theorem dX3_charactersIn_10 : decode cX3_charactersIn 10 = .ok (.invokestatic 40, 3) := by decide +kernel
theorem dX3_charactersIn_13 : decode cX3_charactersIn 13 = .ok (.istore_n 3, 1) := by decide +kernel
theorem dX3_charactersIn_14 : decode cX3_charactersIn 14 = .ok (.iload_n 3, 1) := by decide +kernel
theorem dX3_charactersIn_15 : decode cX3_charactersIn 15 = .ok (.ifCond .ne 20, 3) := by decide +kernel
theorem dX3_charactersIn_18 : decode cX3_charactersIn 18 = .ok (.lload_n 0, 1) := by decide +kernel
theorem dX3_charactersIn_19 : decode cX3_charactersIn 19 = .ok (.bipush 8, 2) := by decide +kernel
theorem dX3_charactersIn_21 : decode cX3_charactersIn 21 = .ok (.iload_n 2, 1) := by decide +kernel
theorem dX3_charactersIn_22 : decode cX3_charactersIn 22 = .ok (.imul, 1) := by decide +kernel
theorem dX3_charactersIn_23 : decode cX3_charactersIn 23 = .ok (.lushr, 1) := by decide +kernel
theorem dX3_charactersIn_24 : decode cX3_charactersIn 24 = .ok (.lconst 0, 1) := by decide +kernel
theorem dX3_charactersIn_25 : decode cX3_charactersIn 25 = .ok (.lcmp, 1) := by decide +kernel
theorem dX3_charactersIn_26 : decode cX3_charactersIn 26 = .ok (.ifCond .ne 7, 3) := by decide +kernel
theorem dX3_charactersIn_29 : decode cX3_charactersIn 29 = .ok (.iload_n 2, 1) := by decide +kernel
theorem dX3_charactersIn_30 : decode cX3_charactersIn 30 = .ok (.goto 4, 3) := by decide +kernel
theorem dX3_charactersIn_33 : decode cX3_charactersIn 33 = .ok (.iconst 0, 1) := by decide +kernel
theorem dX3_charactersIn_34 : decode cX3_charactersIn 34 = .ok (.ireturn, 1) := by decide +kernel
theorem dX3_charactersIn_35 : decode cX3_charactersIn 35 = .ok (.iload_n 3, 1) := by decide +kernel
theorem dX3_charactersIn_36 : decode cX3_charactersIn 36 = .ok (.bipush 33, 2) := by decide +kernel
theorem dX3_charactersIn_38 : decode cX3_charactersIn 38 = .ok (.if_icmp .lt 9, 3) := by decide +kernel
theorem dX3_charactersIn_41 : decode cX3_charactersIn 41 = .ok (.iload_n 3, 1) := by decide +kernel
theorem dX3_charactersIn_42 : decode cX3_charactersIn 42 = .ok (.bipush 126, 2) := by decide +kernel
theorem dX3_charactersIn_44 : decode cX3_charactersIn 44 = .ok (.if_icmp .le 5, 3) := by decide +kernel
theorem dX3_charactersIn_47 : decode cX3_charactersIn 47 = .ok (.iconst 0, 1) := by decide +kernel
theorem dX3_charactersIn_48 : decode cX3_charactersIn 48 = .ok (.ireturn, 1) := by decide +kernel
theorem dX3_charactersIn_49 : decode cX3_charactersIn 49 = .ok (.iinc 2 1, 3) := by decide +kernel
theorem dX3_charactersIn_52 : decode cX3_charactersIn 52 = .ok (.goto (-50), 3) := by decide +kernel
theorem dX3_charactersIn_55 : decode cX3_charactersIn 55 = .ok (.bipush 8, 2) := by decide +kernel
theorem dX3_charactersIn_57 : decode cX3_charactersIn 57 = .ok (.ireturn, 1) := by decide +kernel
theorem dX3_clear_0 : decode cX3_clear 0 = .ok (.aload_n 0, 1) := by decide +kernel
theorem dX3_clear_1 : decode cX3_clear 1 = .ok (.getfield 20, 3) := by decide +kernel
theorem dX3_clear_4 : decode cX3_clear 4 = .ok (.istore_n 1, 1) := by decide +kernel
theorem dX3_clear_5 : decode cX3_clear 5 = .ok (.aload_n 0, 1) := by decide +kernel
theorem dX3_clear_6 : decode cX3_clear 6 = .ok (.iconst 0, 1) := by decide +kernel
theorem dX3_clear_7 : decode cX3_clear 7 = .ok (.putfield 20, 3) := by decide +kernel
theorem dX3_clear_10 : decode cX3_clear 10 = .ok (.iload_n 1, 1) := by decide +kernel
theorem dX3_clear_11 : decode cX3_clear 11 = .ok (.ireturn, 1) := by decide +kernel
theorem dX3_findFault_0 : decode cX3_findFault 0 = .ok (.aload_n 0, 1) := by decide +kernel
theorem dX3_findFault_1 : decode cX3_findFault 1 = .ok (.invokevirtual 50, 3) := by decide +kernel
theorem dX3_findFault_4 : decode cX3_findFault 4 = .ok (.iconst 0, 1) := by decide +kernel
theorem dX3_findFault_5 : decode cX3_findFault 5 = .ok (.istore_n 1, 1) := by decide +kernel
theorem dX3_findFault_6 : decode cX3_findFault 6 = .ok (.iload_n 1, 1) := by decide +kernel
theorem dX3_findFault_7 : decode cX3_findFault 7 = .ok (.bipush 60, 2) := by decide +kernel
theorem dX3_findFault_9 : decode cX3_findFault 9 = .ok (.if_icmp .ge 31, 3) := by decide +kernel
theorem dX3_findFault_12 : decode cX3_findFault 12 = .ok (.aload_n 0, 1) := by decide +kernel
theorem dX3_findFault_13 : decode cX3_findFault 13 = .ok (.invokevirtual 53, 3) := by decide +kernel
theorem dX3_findFault_16 : decode cX3_findFault 16 = .ok (.ifCond .ne 8, 3) := by decide +kernel
theorem dX3_findFault_19 : decode cX3_findFault 19 = .ok (.aload_n 0, 1) := by decide +kernel
theorem dX3_findFault_20 : decode cX3_findFault 20 = .ok (.getfield 24, 3) := by decide +kernel
theorem dX3_findFault_23 : decode cX3_findFault 23 = .ok (.ireturn, 1) := by decide +kernel
theorem dX3_findFault_24 : decode cX3_findFault 24 = .ok (.aload_n 0, 1) := by decide +kernel
theorem dX3_findFault_25 : decode cX3_findFault 25 = .ok (.invokevirtual 57, 3) := by decide +kernel
theorem dX3_findFault_28 : decode cX3_findFault 28 = .ok (.ifCond .ne 6, 3) := by decide +kernel
theorem dX3_findFault_31 : decode cX3_findFault 31 = .ok (.bipush (-6), 2) := by decide +kernel
theorem dX3_findFault_33 : decode cX3_findFault 33 = .ok (.ireturn, 1) := by decide +kernel
theorem dX3_findFault_34 : decode cX3_findFault 34 = .ok (.iinc 1 1, 3) := by decide +kernel
theorem dX3_findFault_37 : decode cX3_findFault 37 = .ok (.goto (-31), 3) := by decide +kernel
theorem dX3_findFault_40 : decode cX3_findFault 40 = .ok (.aload_n 0, 1) := by decide +kernel
theorem dX3_findFault_41 : decode cX3_findFault 41 = .ok (.getfield 24, 3) := by decide +kernel
theorem dX3_findFault_44 : decode cX3_findFault 44 = .ok (.ireturn, 1) := by decide +kernel
theorem dX3_startReading_0 : decode cX3_startReading 0 = .ok (.aload_n 0, 1) := by decide +kernel
theorem dX3_startReading_1 : decode cX3_startReading 1 = .ok (.iconst 0, 1) := by decide +kernel
theorem dX3_startReading_2 : decode cX3_startReading 2 = .ok (.putfield 24, 3) := by decide +kernel
theorem dX3_startReading_5 : decode cX3_startReading 5 = .ok (.return_, 1) := by decide +kernel
theorem dX3_hasMore_0 : decode cX3_hasMore 0 = .ok (.aload_n 0, 1) := by decide +kernel
theorem dX3_hasMore_1 : decode cX3_hasMore 1 = .ok (.getfield 24, 3) := by decide +kernel
theorem dX3_hasMore_4 : decode cX3_hasMore 4 = .ok (.aload_n 0, 1) := by decide +kernel
theorem dX3_hasMore_5 : decode cX3_hasMore 5 = .ok (.getfield 20, 3) := by decide +kernel
theorem dX3_hasMore_8 : decode cX3_hasMore 8 = .ok (.if_icmp .ge 7, 3) := by decide +kernel
theorem dX3_hasMore_11 : decode cX3_hasMore 11 = .ok (.iconst 1, 1) := by decide +kernel
theorem dX3_hasMore_12 : decode cX3_hasMore 12 = .ok (.goto 4, 3) := by decide +kernel
theorem dX3_hasMore_15 : decode cX3_hasMore 15 = .ok (.iconst 0, 1) := by decide +kernel
theorem dX3_hasMore_16 : decode cX3_hasMore 16 = .ok (.ireturn, 1) := by decide +kernel
theorem dX3_readNext_0 : decode cX3_readNext 0 = .ok (.aload_n 0, 1) := by decide +kernel
theorem dX3_readNext_1 : decode cX3_readNext 1 = .ok (.getfield 24, 3) := by decide +kernel
theorem dX3_readNext_4 : decode cX3_readNext 4 = .ok (.ifCond .eq 12, 3) := by decide +kernel
theorem dX3_readNext_7 : decode cX3_readNext 7 = .ok (.aload_n 0, 1) := by decide +kernel
theorem dX3_readNext_8 : decode cX3_readNext 8 = .ok (.bipush 59, 2) := by decide +kernel
theorem dX3_readNext_10 : decode cX3_readNext 10 = .ok (.invokevirtual 60, 3) := by decide +kernel
theorem dX3_readNext_13 : decode cX3_readNext 13 = .ok (.ifCond .eq 14, 3) := by decide +kernel
theorem dX3_readNext_16 : decode cX3_readNext 16 = .ok (.aload_n 0, 1) := by decide +kernel
theorem dX3_readNext_17 : decode cX3_readNext 17 = .ok (.invokevirtual 64, 3) := by decide +kernel
theorem dX3_readNext_20 : decode cX3_readNext 20 = .ok (.ifCond .eq 7, 3) := by decide +kernel
theorem dX3_readNext_23 : decode cX3_readNext 23 = .ok (.iconst 1, 1) := by decide +kernel
theorem dX3_readNext_24 : decode cX3_readNext 24 = .ok (.goto 4, 3) := by decide +kernel
theorem dX3_readNext_27 : decode cX3_readNext 27 = .ok (.iconst 0, 1) := by decide +kernel
theorem dX3_readNext_28 : decode cX3_readNext 28 = .ok (.ireturn, 1) := by decide +kernel
theorem dX3_readOrder_0 : decode cX3_readOrder 0 = .ok (.aload_n 0, 1) := by decide +kernel
theorem dX3_readOrder_1 : decode cX3_readOrder 1 = .ok (.aload_n 0, 1) := by decide +kernel
theorem dX3_readOrder_2 : decode cX3_readOrder 2 = .ok (.invokevirtual 67, 3) := by decide +kernel
theorem dX3_readOrder_5 : decode cX3_readOrder 5 = .ok (.putfield 27, 3) := by decide +kernel
theorem dX3_readOrder_8 : decode cX3_readOrder 8 = .ok (.aload_n 0, 1) := by decide +kernel
theorem dX3_readOrder_9 : decode cX3_readOrder 9 = .ok (.getfield 27, 3) := by decide +kernel
theorem dX3_readOrder_12 : decode cX3_readOrder 12 = .ok (.invokestatic 71, 3) := by decide +kernel
theorem dX3_readOrder_15 : decode cX3_readOrder 15 = .ok (.ifCond .ne 5, 3) := by decide +kernel
theorem dX3_readOrder_18 : decode cX3_readOrder 18 = .ok (.iconst 0, 1) := by decide +kernel
theorem dX3_readOrder_19 : decode cX3_readOrder 19 = .ok (.ireturn, 1) := by decide +kernel
theorem dX3_readOrder_20 : decode cX3_readOrder 20 = .ok (.aload_n 0, 1) := by decide +kernel
theorem dX3_readOrder_21 : decode cX3_readOrder 21 = .ok (.dup, 1) := by decide +kernel
theorem dX3_readOrder_22 : decode cX3_readOrder 22 = .ok (.getfield 24, 3) := by decide +kernel
theorem dX3_readOrder_25 : decode cX3_readOrder 25 = .ok (.iconst 1, 1) := by decide +kernel
theorem dX3_readOrder_26 : decode cX3_readOrder 26 = .ok (.iadd, 1) := by decide +kernel
theorem dX3_readOrder_27 : decode cX3_readOrder 27 = .ok (.putfield 24, 3) := by decide +kernel
theorem dX3_readOrder_30 : decode cX3_readOrder 30 = .ok (.aload_n 0, 1) := by decide +kernel
theorem dX3_readOrder_31 : decode cX3_readOrder 31 = .ok (.bipush (-6), 2) := by decide +kernel
theorem dX3_readOrder_33 : decode cX3_readOrder 33 = .ok (.putfield 30, 3) := by decide +kernel
theorem dX3_readOrder_36 : decode cX3_readOrder 36 = .ok (.aload_n 0, 1) := by decide +kernel
theorem dX3_readOrder_37 : decode cX3_readOrder 37 = .ok (.getfield 27, 3) := by decide +kernel
theorem dX3_readOrder_40 : decode cX3_readOrder 40 = .ok (.bipush 107, 2) := by decide +kernel
theorem dX3_readOrder_42 : decode cX3_readOrder 42 = .ok (.if_icmp .ne 14, 3) := by decide +kernel
theorem dX3_readOrder_45 : decode cX3_readOrder 45 = .ok (.aload_n 0, 1) := by decide +kernel
theorem dX3_readOrder_46 : decode cX3_readOrder 46 = .ok (.bipush 45, 2) := by decide +kernel
theorem dX3_readOrder_48 : decode cX3_readOrder 48 = .ok (.invokevirtual 60, 3) := by decide +kernel
theorem dX3_readOrder_51 : decode cX3_readOrder 51 = .ok (.ifCond .eq 5, 3) := by decide +kernel
theorem dX3_readOrder_54 : decode cX3_readOrder 54 = .ok (.iconst 1, 1) := by decide +kernel
theorem dX3_readOrder_55 : decode cX3_readOrder 55 = .ok (.ireturn, 1) := by decide +kernel
theorem dX3_readOrder_56 : decode cX3_readOrder 56 = .ok (.aload_n 0, 1) := by decide +kernel
theorem dX3_readOrder_57 : decode cX3_readOrder 57 = .ok (.invokevirtual 74, 3) := by decide +kernel
theorem dX3_readOrder_60 : decode cX3_readOrder 60 = .ok (.ifCond .eq 32, 3) := by decide +kernel
theorem dX3_readOrder_63 : decode cX3_readOrder 63 = .ok (.aload_n 0, 1) := by decide +kernel
theorem dX3_readOrder_64 : decode cX3_readOrder 64 = .ok (.getfield 27, 3) := by decide +kernel
theorem dX3_readOrder_67 : decode cX3_readOrder 67 = .ok (.bipush 99, 2) := by decide +kernel
theorem dX3_readOrder_69 : decode cX3_readOrder 69 = .ok (.if_icmp .ne 19, 3) := by decide +kernel
theorem dX3_readOrder_72 : decode cX3_readOrder 72 = .ok (.aload_n 0, 1) := by decide +kernel
theorem dX3_readOrder_73 : decode cX3_readOrder 73 = .ok (.bipush 64, 2) := by decide +kernel
theorem dX3_readOrder_75 : decode cX3_readOrder 75 = .ok (.invokevirtual 60, 3) := by decide +kernel
theorem dX3_readOrder_78 : decode cX3_readOrder 78 = .ok (.ifCond .eq 14, 3) := by decide +kernel
theorem dX3_readOrder_81 : decode cX3_readOrder 81 = .ok (.aload_n 0, 1) := by decide +kernel
theorem dX3_readOrder_82 : decode cX3_readOrder 82 = .ok (.invokevirtual 77, 3) := by decide +kernel
theorem dX3_readOrder_85 : decode cX3_readOrder 85 = .ok (.ifCond .eq 7, 3) := by decide +kernel
theorem dX3_readOrder_88 : decode cX3_readOrder 88 = .ok (.iconst 1, 1) := by decide +kernel
theorem dX3_readOrder_89 : decode cX3_readOrder 89 = .ok (.goto 4, 3) := by decide +kernel
theorem dX3_readOrder_92 : decode cX3_readOrder 92 = .ok (.iconst 0, 1) := by decide +kernel
theorem dX3_readOrder_93 : decode cX3_readOrder 93 = .ok (.ireturn, 1) := by decide +kernel
theorem dX3_readNumber_0 : decode cX3_readNumber 0 = .ok (.aload_n 0, 1) := by decide +kernel
theorem dX3_readNumber_1 : decode cX3_readNumber 1 = .ok (.invokevirtual 67, 3) := by decide +kernel
theorem dX3_readNumber_4 : decode cX3_readNumber 4 = .ok (.bipush 9, 2) := by decide +kernel
theorem dX3_readNumber_6 : decode cX3_readNumber 6 = .ok (.invokestatic 80, 3) := by decide +kernel
theorem dX3_readNumber_9 : decode cX3_readNumber 9 = .ok (.ifCond .ne 5, 3) := by decide +kernel
theorem dX3_readNumber_12 : decode cX3_readNumber 12 = .ok (.iconst 0, 1) := by decide +kernel
theorem dX3_readNumber_13 : decode cX3_readNumber 13 = .ok (.ireturn, 1) := by decide +kernel
theorem dX3_readNumber_14 : decode cX3_readNumber 14 = .ok (.aload_n 0, 1) := by decide +kernel
theorem dX3_readNumber_15 : decode cX3_readNumber 15 = .ok (.iconst 0, 1) := by decide +kernel
theorem dX3_readNumber_16 : decode cX3_readNumber 16 = .ok (.putfield 30, 3) := by decide +kernel
theorem dX3_readNumber_19 : decode cX3_readNumber 19 = .ok (.iconst 0, 1) := by decide +kernel
theorem dX3_readNumber_20 : decode cX3_readNumber 20 = .ok (.istore_n 1, 1) := by decide +kernel
theorem dX3_readNumber_21 : decode cX3_readNumber 21 = .ok (.iload_n 1, 1) := by decide +kernel
theorem dX3_readNumber_22 : decode cX3_readNumber 22 = .ok (.iconst 3, 1) := by decide +kernel
theorem dX3_readNumber_23 : decode cX3_readNumber 23 = .ok (.if_icmp .ge 72, 3) := by decide +kernel
theorem dX3_readNumber_26 : decode cX3_readNumber 26 = .ok (.aload_n 0, 1) := by decide +kernel
theorem dX3_readNumber_27 : decode cX3_readNumber 27 = .ok (.invokevirtual 67, 3) := by decide +kernel
theorem dX3_readNumber_30 : decode cX3_readNumber 30 = .ok (.bipush 9, 2) := by decide +kernel
theorem dX3_readNumber_32 : decode cX3_readNumber 32 = .ok (.invokestatic 80, 3) := by decide +kernel
theorem dX3_readNumber_35 : decode cX3_readNumber 35 = .ok (.ifCond .eq 60, 3) := by decide +kernel
theorem dX3_readNumber_38 : decode cX3_readNumber 38 = .ok (.bipush 10, 2) := by decide +kernel
theorem dX3_readNumber_40 : decode cX3_readNumber 40 = .ok (.aload_n 0, 1) := by decide +kernel
theorem dX3_readNumber_41 : decode cX3_readNumber 41 = .ok (.getfield 30, 3) := by decide +kernel
theorem dX3_readNumber_44 : decode cX3_readNumber 44 = .ok (.imul, 1) := by decide +kernel
theorem dX3_readNumber_45 : decode cX3_readNumber 45 = .ok (.aload_n 0, 1) := by decide +kernel
theorem dX3_readNumber_46 : decode cX3_readNumber 46 = .ok (.invokevirtual 67, 3) := by decide +kernel
theorem dX3_readNumber_49 : decode cX3_readNumber 49 = .ok (.iadd, 1) := by decide +kernel
theorem dX3_readNumber_50 : decode cX3_readNumber 50 = .ok (.bipush 48, 2) := by decide +kernel
theorem dX3_readNumber_52 : decode cX3_readNumber 52 = .ok (.isub, 1) := by decide +kernel
theorem dX3_readNumber_53 : decode cX3_readNumber 53 = .ok (.istore_n 2, 1) := by decide +kernel
theorem dX3_readNumber_54 : decode cX3_readNumber 54 = .ok (.iload_n 2, 1) := by decide +kernel
theorem dX3_readNumber_55 : decode cX3_readNumber 55 = .ok (.bipush 119, 2) := by decide +kernel
theorem dX3_readNumber_57 : decode cX3_readNumber 57 = .ok (.if_icmp .gt 38, 3) := by decide +kernel
theorem dX3_readNumber_60 : decode cX3_readNumber 60 = .ok (.iload_n 1, 1) := by decide +kernel
theorem dX3_readNumber_61 : decode cX3_readNumber 61 = .ok (.ifCond .le 13, 3) := by decide +kernel
theorem dX3_readNumber_64 : decode cX3_readNumber 64 = .ok (.aload_n 0, 1) := by decide +kernel
theorem dX3_readNumber_65 : decode cX3_readNumber 65 = .ok (.getfield 30, 3) := by decide +kernel
theorem dX3_readNumber_68 : decode cX3_readNumber 68 = .ok (.ifCond .ne 6, 3) := by decide +kernel
theorem dX3_readNumber_71 : decode cX3_readNumber 71 = .ok (.goto 24, 3) := by decide +kernel
theorem dX3_readNumber_74 : decode cX3_readNumber 74 = .ok (.aload_n 0, 1) := by decide +kernel
theorem dX3_readNumber_75 : decode cX3_readNumber 75 = .ok (.iload_n 2, 1) := by decide +kernel
theorem dX3_readNumber_76 : decode cX3_readNumber 76 = .ok (.putfield 30, 3) := by decide +kernel
theorem dX3_readNumber_79 : decode cX3_readNumber 79 = .ok (.aload_n 0, 1) := by decide +kernel
theorem dX3_readNumber_80 : decode cX3_readNumber 80 = .ok (.dup, 1) := by decide +kernel
theorem dX3_readNumber_81 : decode cX3_readNumber 81 = .ok (.getfield 24, 3) := by decide +kernel
theorem dX3_readNumber_84 : decode cX3_readNumber 84 = .ok (.iconst 1, 1) := by decide +kernel
theorem dX3_readNumber_85 : decode cX3_readNumber 85 = .ok (.iadd, 1) := by decide +kernel
theorem dX3_readNumber_86 : decode cX3_readNumber 86 = .ok (.putfield 24, 3) := by decide +kernel
theorem dX3_readNumber_89 : decode cX3_readNumber 89 = .ok (.iinc 1 1, 3) := by decide +kernel
theorem dX3_readNumber_92 : decode cX3_readNumber 92 = .ok (.goto (-71), 3) := by decide +kernel
theorem dX3_readNumber_95 : decode cX3_readNumber 95 = .ok (.iconst 1, 1) := by decide +kernel
theorem dX3_readNumber_96 : decode cX3_readNumber 96 = .ok (.ireturn, 1) := by decide +kernel
theorem dX3_readPlace_0 : decode cX3_readPlace 0 = .ok (.aload_n 0, 1) := by decide +kernel
theorem dX3_readPlace_1 : decode cX3_readPlace 1 = .ok (.invokevirtual 67, 3) := by decide +kernel
theorem dX3_readPlace_4 : decode cX3_readPlace 4 = .ok (.iconst 2, 1) := by decide +kernel
theorem dX3_readPlace_5 : decode cX3_readPlace 5 = .ok (.invokestatic 80, 3) := by decide +kernel
theorem dX3_readPlace_8 : decode cX3_readPlace 8 = .ok (.ifCond .ne 5, 3) := by decide +kernel
theorem dX3_readPlace_11 : decode cX3_readPlace 11 = .ok (.iconst 0, 1) := by decide +kernel
theorem dX3_readPlace_12 : decode cX3_readPlace 12 = .ok (.ireturn, 1) := by decide +kernel
theorem dX3_readPlace_13 : decode cX3_readPlace 13 = .ok (.aload_n 0, 1) := by decide +kernel
theorem dX3_readPlace_14 : decode cX3_readPlace 14 = .ok (.aload_n 0, 1) := by decide +kernel
theorem dX3_readPlace_15 : decode cX3_readPlace 15 = .ok (.invokevirtual 67, 3) := by decide +kernel
theorem dX3_readPlace_18 : decode cX3_readPlace 18 = .ok (.bipush 48, 2) := by decide +kernel
theorem dX3_readPlace_20 : decode cX3_readPlace 20 = .ok (.isub, 1) := by decide +kernel
theorem dX3_readPlace_21 : decode cX3_readPlace 21 = .ok (.putfield 33, 3) := by decide +kernel
theorem dX3_readPlace_24 : decode cX3_readPlace 24 = .ok (.aload_n 0, 1) := by decide +kernel
theorem dX3_readPlace_25 : decode cX3_readPlace 25 = .ok (.dup, 1) := by decide +kernel
theorem dX3_readPlace_26 : decode cX3_readPlace 26 = .ok (.getfield 24, 3) := by decide +kernel
theorem dX3_readPlace_29 : decode cX3_readPlace 29 = .ok (.iconst 1, 1) := by decide +kernel
theorem dX3_readPlace_30 : decode cX3_readPlace 30 = .ok (.iadd, 1) := by decide +kernel
theorem dX3_readPlace_31 : decode cX3_readPlace 31 = .ok (.putfield 24, 3) := by decide +kernel
theorem dX3_readPlace_34 : decode cX3_readPlace 34 = .ok (.iconst 1, 1) := by decide +kernel
theorem dX3_readPlace_35 : decode cX3_readPlace 35 = .ok (.ireturn, 1) := by decide +kernel
theorem dX3_skip_0 : decode cX3_skip 0 = .ok (.aload_n 0, 1) := by decide +kernel
theorem dX3_skip_1 : decode cX3_skip 1 = .ok (.invokevirtual 67, 3) := by decide +kernel
theorem dX3_skip_4 : decode cX3_skip 4 = .ok (.iload_n 1, 1) := by decide +kernel
theorem dX3_skip_5 : decode cX3_skip 5 = .ok (.if_icmp .ne 7, 3) := by decide +kernel
theorem dX3_skip_8 : decode cX3_skip 8 = .ok (.iconst 1, 1) := by decide +kernel
theorem dX3_skip_9 : decode cX3_skip 9 = .ok (.goto 4, 3) := by decide +kernel
theorem dX3_skip_12 : decode cX3_skip 12 = .ok (.iconst 0, 1) := by decide +kernel
theorem dX3_skip_13 : decode cX3_skip 13 = .ok (.istore_n 2, 1) := by decide +kernel
theorem dX3_skip_14 : decode cX3_skip 14 = .ok (.iload_n 2, 1) := by decide +kernel
theorem dX3_skip_15 : decode cX3_skip 15 = .ok (.ifCond .eq 13, 3) := by decide +kernel
theorem dX3_skip_18 : decode cX3_skip 18 = .ok (.aload_n 0, 1) := by decide +kernel
theorem dX3_skip_19 : decode cX3_skip 19 = .ok (.dup, 1) := by decide +kernel
theorem dX3_skip_20 : decode cX3_skip 20 = .ok (.getfield 24, 3) := by decide +kernel
theorem dX3_skip_23 : decode cX3_skip 23 = .ok (.iconst 1, 1) := by decide +kernel
theorem dX3_skip_24 : decode cX3_skip 24 = .ok (.iadd, 1) := by decide +kernel
theorem dX3_skip_25 : decode cX3_skip 25 = .ok (.putfield 24, 3) := by decide +kernel
theorem dX3_skip_28 : decode cX3_skip 28 = .ok (.iload_n 2, 1) := by decide +kernel
theorem dX3_skip_29 : decode cX3_skip 29 = .ok (.ireturn, 1) := by decide +kernel
theorem dX3_nextSign_0 : decode cX3_nextSign 0 = .ok (.aload_n 0, 1) := by decide +kernel
theorem dX3_nextSign_1 : decode cX3_nextSign 1 = .ok (.invokevirtual 57, 3) := by decide +kernel
theorem dX3_nextSign_4 : decode cX3_nextSign 4 = .ok (.ifCond .eq 17, 3) := by decide +kernel
theorem dX3_nextSign_7 : decode cX3_nextSign 7 = .ok (.aload_n 0, 1) := by decide +kernel
theorem dX3_nextSign_8 : decode cX3_nextSign 8 = .ok (.getfield 14, 3) := by decide +kernel
theorem dX3_nextSign_11 : decode cX3_nextSign 11 = .ok (.aload_n 0, 1) := by decide +kernel
theorem dX3_nextSign_12 : decode cX3_nextSign 12 = .ok (.getfield 24, 3) := by decide +kernel
theorem dX3_nextSign_15 : decode cX3_nextSign 15 = .ok (.invokevirtual 84, 3) := by decide +kernel
theorem dX3_nextSign_18 : decode cX3_nextSign 18 = .ok (.goto 4, 3) := by decide +kernel
theorem dX3_nextSign_21 : decode cX3_nextSign 21 = .ok (.iconst 0, 1) := by decide +kernel
theorem dX3_nextSign_22 : decode cX3_nextSign 22 = .ok (.ireturn, 1) := by decide +kernel
theorem dX3_isDigit_0 : decode cX3_isDigit 0 = .ok (.iload_n 0, 1) := by decide +kernel
theorem dX3_isDigit_1 : decode cX3_isDigit 1 = .ok (.bipush 48, 2) := by decide +kernel
theorem dX3_isDigit_3 : decode cX3_isDigit 3 = .ok (.if_icmp .lt 15, 3) := by decide +kernel
theorem dX3_isDigit_6 : decode cX3_isDigit 6 = .ok (.iload_n 0, 1) := by decide +kernel
theorem dX3_isDigit_7 : decode cX3_isDigit 7 = .ok (.bipush 48, 2) := by decide +kernel
theorem dX3_isDigit_9 : decode cX3_isDigit 9 = .ok (.iload_n 1, 1) := by decide +kernel
theorem dX3_isDigit_10 : decode cX3_isDigit 10 = .ok (.iadd, 1) := by decide +kernel
theorem dX3_isDigit_11 : decode cX3_isDigit 11 = .ok (.if_icmp .gt 7, 3) := by decide +kernel
theorem dX3_isDigit_14 : decode cX3_isDigit 14 = .ok (.iconst 1, 1) := by decide +kernel
theorem dX3_isDigit_15 : decode cX3_isDigit 15 = .ok (.goto 4, 3) := by decide +kernel
theorem dX3_isDigit_18 : decode cX3_isDigit 18 = .ok (.iconst 0, 1) := by decide +kernel
theorem dX3_isDigit_19 : decode cX3_isDigit 19 = .ok (.ireturn, 1) := by decide +kernel
theorem dX3_isLetter_0 : decode cX3_isLetter 0 = .ok (.iload_n 0, 1) := by decide +kernel
theorem dX3_isLetter_1 : decode cX3_isLetter 1 = .ok (.lookupswitch 61 #[(98, 59), (99, 59), (107, 59), (114, 59), (120, 59), (121, 59)], 59) := by decide +kernel
theorem dX3_isLetter_60 : decode cX3_isLetter 60 = .ok (.iconst 1, 1) := by decide +kernel
theorem dX3_isLetter_61 : decode cX3_isLetter 61 = .ok (.ireturn, 1) := by decide +kernel
theorem dX3_isLetter_62 : decode cX3_isLetter 62 = .ok (.iconst 0, 1) := by decide +kernel
theorem dX3_isLetter_63 : decode cX3_isLetter 63 = .ok (.ireturn, 1) := by decide +kernel
theorem dX4_init_0 : decode cX4_init 0 = .ok (.aload_n 0, 1) := by decide +kernel
theorem dX4_init_1 : decode cX4_init 1 = .ok (.invokespecial 1, 3) := by decide +kernel
theorem dX4_init_4 : decode cX4_init 4 = .ok (.aload_n 0, 1) := by decide +kernel
theorem dX4_init_5 : decode cX4_init 5 = .ok (.iload_n 1, 1) := by decide +kernel
theorem dX4_init_6 : decode cX4_init 6 = .ok (.iconst 0, 1) := by decide +kernel
theorem dX4_init_7 : decode cX4_init 7 = .ok (.invokestatic 7, 3) := by decide +kernel
theorem dX4_init_10 : decode cX4_init 10 = .ok (.newarray .int, 2) := by decide +kernel
theorem dX4_init_12 : decode cX4_init 12 = .ok (.putfield 13, 3) := by decide +kernel
theorem dX4_init_15 : decode cX4_init 15 = .ok (.return_, 1) := by decide +kernel
theorem dX4_at_0 : decode cX4_at 0 = .ok (.iload_n 1, 1) := by decide +kernel
theorem dX4_at_1 : decode cX4_at 1 = .ok (.ifCond .lt 21, 3) := by decide +kernel
theorem dX4_at_4 : decode cX4_at 4 = .ok (.iload_n 1, 1) := by decide +kernel
theorem dX4_at_5 : decode cX4_at 5 = .ok (.aload_n 0, 1) := by decide +kernel
theorem dX4_at_6 : decode cX4_at 6 = .ok (.getfield 13, 3) := by decide +kernel
theorem dX4_at_9 : decode cX4_at 9 = .ok (.arraylength, 1) := by decide +kernel
theorem dX4_at_10 : decode cX4_at 10 = .ok (.if_icmp .ge 12, 3) := by decide +kernel
theorem dX4_at_13 : decode cX4_at 13 = .ok (.aload_n 0, 1) := by decide +kernel
theorem dX4_at_14 : decode cX4_at 14 = .ok (.getfield 13, 3) := by decide +kernel
theorem dX4_at_17 : decode cX4_at 17 = .ok (.iload_n 1, 1) := by decide +kernel
theorem dX4_at_18 : decode cX4_at 18 = .ok (.iaload, 1) := by decide +kernel
theorem dX4_at_19 : decode cX4_at 19 = .ok (.goto 4, 3) := by decide +kernel
theorem dX4_at_22 : decode cX4_at 22 = .ok (.iconst 0, 1) := by decide +kernel
theorem dX4_at_23 : decode cX4_at 23 = .ok (.ireturn, 1) := by decide +kernel
theorem dX4_set_0 : decode cX4_set 0 = .ok (.iload_n 1, 1) := by decide +kernel
theorem dX4_set_1 : decode cX4_set 1 = .ok (.ifCond .lt 19, 3) := by decide +kernel
theorem dX4_set_4 : decode cX4_set 4 = .ok (.iload_n 1, 1) := by decide +kernel
theorem dX4_set_5 : decode cX4_set 5 = .ok (.aload_n 0, 1) := by decide +kernel
theorem dX4_set_6 : decode cX4_set 6 = .ok (.getfield 13, 3) := by decide +kernel
theorem dX4_set_9 : decode cX4_set 9 = .ok (.arraylength, 1) := by decide +kernel
theorem dX4_set_10 : decode cX4_set 10 = .ok (.if_icmp .ge 10, 3) := by decide +kernel
theorem dX4_set_13 : decode cX4_set 13 = .ok (.aload_n 0, 1) := by decide +kernel
theorem dX4_set_14 : decode cX4_set 14 = .ok (.getfield 13, 3) := by decide +kernel
theorem dX4_set_17 : decode cX4_set 17 = .ok (.iload_n 1, 1) := by decide +kernel
theorem dX4_set_18 : decode cX4_set 18 = .ok (.iload_n 2, 1) := by decide +kernel
theorem dX4_set_19 : decode cX4_set 19 = .ok (.iastore, 1) := by decide +kernel
theorem dX4_set_20 : decode cX4_set 20 = .ok (.return_, 1) := by decide +kernel
theorem dX4_add_0 : decode cX4_add 0 = .ok (.iload_n 1, 1) := by decide +kernel
theorem dX4_add_1 : decode cX4_add 1 = .ok (.ifCond .lt 22, 3) := by decide +kernel
theorem dX4_add_4 : decode cX4_add 4 = .ok (.iload_n 1, 1) := by decide +kernel
theorem dX4_add_5 : decode cX4_add 5 = .ok (.aload_n 0, 1) := by decide +kernel
theorem dX4_add_6 : decode cX4_add 6 = .ok (.getfield 13, 3) := by decide +kernel
theorem dX4_add_9 : decode cX4_add 9 = .ok (.arraylength, 1) := by decide +kernel
theorem dX4_add_10 : decode cX4_add 10 = .ok (.if_icmp .ge 13, 3) := by decide +kernel
theorem dX4_add_13 : decode cX4_add 13 = .ok (.aload_n 0, 1) := by decide +kernel
theorem dX4_add_14 : decode cX4_add 14 = .ok (.getfield 13, 3) := by decide +kernel
theorem dX4_add_17 : decode cX4_add 17 = .ok (.iload_n 1, 1) := by decide +kernel
theorem dX4_add_18 : decode cX4_add 18 = .ok (.dup2, 1) := by decide +kernel
theorem dX4_add_19 : decode cX4_add 19 = .ok (.iaload, 1) := by decide +kernel
theorem dX4_add_20 : decode cX4_add 20 = .ok (.iload_n 2, 1) := by decide +kernel
theorem dX4_add_21 : decode cX4_add 21 = .ok (.iadd, 1) := by decide +kernel
theorem dX4_add_22 : decode cX4_add 22 = .ok (.iastore, 1) := by decide +kernel
theorem dX4_add_23 : decode cX4_add 23 = .ok (.return_, 1) := by decide +kernel
theorem dX4_fill_0 : decode cX4_fill 0 = .ok (.iconst 0, 1) := by decide +kernel
theorem dX4_fill_1 : decode cX4_fill 1 = .ok (.istore_n 2, 1) := by decide +kernel
theorem dX4_fill_2 : decode cX4_fill 2 = .ok (.iload_n 2, 1) := by decide +kernel
theorem dX4_fill_3 : decode cX4_fill 3 = .ok (.aload_n 0, 1) := by decide +kernel
theorem dX4_fill_4 : decode cX4_fill 4 = .ok (.getfield 13, 3) := by decide +kernel
theorem dX4_fill_7 : decode cX4_fill 7 = .ok (.arraylength, 1) := by decide +kernel
theorem dX4_fill_8 : decode cX4_fill 8 = .ok (.if_icmp .ge 16, 3) := by decide +kernel
theorem dX4_fill_11 : decode cX4_fill 11 = .ok (.aload_n 0, 1) := by decide +kernel
theorem dX4_fill_12 : decode cX4_fill 12 = .ok (.getfield 13, 3) := by decide +kernel
theorem dX4_fill_15 : decode cX4_fill 15 = .ok (.iload_n 2, 1) := by decide +kernel
theorem dX4_fill_16 : decode cX4_fill 16 = .ok (.iload_n 1, 1) := by decide +kernel
theorem dX4_fill_17 : decode cX4_fill 17 = .ok (.iastore, 1) := by decide +kernel
theorem dX4_fill_18 : decode cX4_fill 18 = .ok (.iinc 2 1, 3) := by decide +kernel
theorem dX4_fill_21 : decode cX4_fill 21 = .ok (.goto (-19), 3) := by decide +kernel
theorem dX4_fill_24 : decode cX4_fill 24 = .ok (.return_, 1) := by decide +kernel
theorem dX4_become_0 : decode cX4_become 0 = .ok (.aload_n 1, 1) := by decide +kernel
theorem dX4_become_1 : decode cX4_become 1 = .ok (.ifnull 29, 3) := by decide +kernel
theorem dX4_become_4 : decode cX4_become 4 = .ok (.aload_n 1, 1) := by decide +kernel
theorem dX4_become_5 : decode cX4_become 5 = .ok (.getfield 13, 3) := by decide +kernel
theorem dX4_become_8 : decode cX4_become 8 = .ok (.iconst 0, 1) := by decide +kernel
theorem dX4_become_9 : decode cX4_become 9 = .ok (.aload_n 0, 1) := by decide +kernel
theorem dX4_become_10 : decode cX4_become 10 = .ok (.getfield 13, 3) := by decide +kernel
theorem dX4_become_13 : decode cX4_become 13 = .ok (.iconst 0, 1) := by decide +kernel
theorem dX4_become_14 : decode cX4_become 14 = .ok (.aload_n 0, 1) := by decide +kernel
theorem dX4_become_15 : decode cX4_become 15 = .ok (.getfield 13, 3) := by decide +kernel
theorem dX4_become_18 : decode cX4_become 18 = .ok (.arraylength, 1) := by decide +kernel
theorem dX4_become_19 : decode cX4_become 19 = .ok (.aload_n 1, 1) := by decide +kernel
theorem dX4_become_20 : decode cX4_become 20 = .ok (.getfield 13, 3) := by decide +kernel
theorem dX4_become_23 : decode cX4_become 23 = .ok (.arraylength, 1) := by decide +kernel
theorem dX4_become_24 : decode cX4_become 24 = .ok (.invokestatic 19, 3) := by decide +kernel
theorem dX4_become_27 : decode cX4_become 27 = .ok (.invokestatic 22, 3) := by decide +kernel
theorem dX4_become_30 : decode cX4_become 30 = .ok (.return_, 1) := by decide +kernel
theorem dX5_init_0 : decode cX5_init 0 = .ok (.aload_n 0, 1) := by decide +kernel
theorem dX5_init_1 : decode cX5_init 1 = .ok (.invokespecial 3, 3) := by decide +kernel
theorem dX5_init_4 : decode cX5_init 4 = .ok (.aload_n 0, 1) := by decide +kernel
theorem dX5_init_5 : decode cX5_init 5 = .ok (.bipush 8, 2) := by decide +kernel
theorem dX5_init_7 : decode cX5_init 7 = .ok (.putfield 9, 3) := by decide +kernel
theorem dX5_init_10 : decode cX5_init 10 = .ok (.aload_n 0, 1) := by decide +kernel
theorem dX5_init_11 : decode cX5_init 11 = .ok (.iconst 0, 1) := by decide +kernel
theorem dX5_init_12 : decode cX5_init 12 = .ok (.putfield 15, 3) := by decide +kernel
theorem dX5_init_15 : decode cX5_init 15 = .ok (.aload_n 0, 1) := by decide +kernel
theorem dX5_init_16 : decode cX5_init 16 = .ok (.iconst 0, 1) := by decide +kernel
theorem dX5_init_17 : decode cX5_init 17 = .ok (.putfield 18, 3) := by decide +kernel
theorem dX5_init_20 : decode cX5_init 20 = .ok (.aload_n 0, 1) := by decide +kernel
theorem dX5_init_21 : decode cX5_init 21 = .ok (.iconst 0, 1) := by decide +kernel
theorem dX5_init_22 : decode cX5_init 22 = .ok (.putfield 21, 3) := by decide +kernel
theorem dX5_init_25 : decode cX5_init 25 = .ok (.aload_n 0, 1) := by decide +kernel
theorem dX5_init_26 : decode cX5_init 26 = .ok (.iconst 0, 1) := by decide +kernel
theorem dX5_init_27 : decode cX5_init 27 = .ok (.putfield 24, 3) := by decide +kernel
theorem dX5_init_30 : decode cX5_init 30 = .ok (.aload_n 0, 1) := by decide +kernel
theorem dX5_init_31 : decode cX5_init 31 = .ok (.new 27, 3) := by decide +kernel
theorem dX5_init_34 : decode cX5_init 34 = .ok (.dup, 1) := by decide +kernel
theorem dX5_init_35 : decode cX5_init 35 = .ok (.bipush 20, 2) := by decide +kernel
theorem dX5_init_37 : decode cX5_init 37 = .ok (.invokespecial 29, 3) := by decide +kernel
theorem dX5_init_40 : decode cX5_init 40 = .ok (.putfield 32, 3) := by decide +kernel
theorem dX5_init_43 : decode cX5_init 43 = .ok (.aload_n 0, 1) := by decide +kernel
theorem dX5_init_44 : decode cX5_init 44 = .ok (.new 27, 3) := by decide +kernel
theorem dX5_init_47 : decode cX5_init 47 = .ok (.dup, 1) := by decide +kernel
theorem dX5_init_48 : decode cX5_init 48 = .ok (.bipush 20, 2) := by decide +kernel
theorem dX5_init_50 : decode cX5_init 50 = .ok (.invokespecial 29, 3) := by decide +kernel
theorem dX5_init_53 : decode cX5_init 53 = .ok (.putfield 36, 3) := by decide +kernel
theorem dX5_init_56 : decode cX5_init 56 = .ok (.aload_n 0, 1) := by decide +kernel
theorem dX5_init_57 : decode cX5_init 57 = .ok (.new 27, 3) := by decide +kernel
theorem dX5_init_60 : decode cX5_init 60 = .ok (.dup, 1) := by decide +kernel
theorem dX5_init_61 : decode cX5_init 61 = .ok (.bipush 20, 2) := by decide +kernel
theorem dX5_init_63 : decode cX5_init 63 = .ok (.invokespecial 29, 3) := by decide +kernel
theorem dX5_init_66 : decode cX5_init 66 = .ok (.putfield 39, 3) := by decide +kernel
theorem dX5_init_69 : decode cX5_init 69 = .ok (.aload_n 0, 1) := by decide +kernel
theorem dX5_init_70 : decode cX5_init 70 = .ok (.new 27, 3) := by decide +kernel
theorem dX5_init_73 : decode cX5_init 73 = .ok (.dup, 1) := by decide +kernel
theorem dX5_init_74 : decode cX5_init 74 = .ok (.bipush 20, 2) := by decide +kernel
theorem dX5_init_76 : decode cX5_init 76 = .ok (.invokespecial 29, 3) := by decide +kernel
theorem dX5_init_79 : decode cX5_init 79 = .ok (.putfield 42, 3) := by decide +kernel
theorem dX5_init_82 : decode cX5_init 82 = .ok (.return_, 1) := by decide +kernel
theorem dX5_hasKey_0 : decode cX5_hasKey 0 = .ok (.iload_n 1, 1) := by decide +kernel
theorem dX5_hasKey_1 : decode cX5_hasKey 1 = .ok (.ifCond .lt 15, 3) := by decide +kernel
theorem dX5_hasKey_4 : decode cX5_hasKey 4 = .ok (.iload_n 1, 1) := by decide +kernel
theorem dX5_hasKey_5 : decode cX5_hasKey 5 = .ok (.aload_n 0, 1) := by decide +kernel
theorem dX5_hasKey_6 : decode cX5_hasKey 6 = .ok (.getfield 15, 3) := by decide +kernel
theorem dX5_hasKey_9 : decode cX5_hasKey 9 = .ok (.if_icmp .ge 7, 3) := by decide +kernel
theorem dX5_hasKey_12 : decode cX5_hasKey 12 = .ok (.iconst 1, 1) := by decide +kernel
theorem dX5_hasKey_13 : decode cX5_hasKey 13 = .ok (.goto 4, 3) := by decide +kernel
theorem dX5_hasKey_16 : decode cX5_hasKey 16 = .ok (.iconst 0, 1) := by decide +kernel
theorem dX5_hasKey_17 : decode cX5_hasKey 17 = .ok (.ireturn, 1) := by decide +kernel
theorem dX5_hasBox_0 : decode cX5_hasBox 0 = .ok (.iload_n 1, 1) := by decide +kernel
theorem dX5_hasBox_1 : decode cX5_hasBox 1 = .ok (.ifCond .lt 15, 3) := by decide +kernel
theorem dX5_hasBox_4 : decode cX5_hasBox 4 = .ok (.iload_n 1, 1) := by decide +kernel
theorem dX5_hasBox_5 : decode cX5_hasBox 5 = .ok (.aload_n 0, 1) := by decide +kernel
theorem dX5_hasBox_6 : decode cX5_hasBox 6 = .ok (.getfield 18, 3) := by decide +kernel
theorem dX5_hasBox_9 : decode cX5_hasBox 9 = .ok (.if_icmp .ge 7, 3) := by decide +kernel
theorem dX5_hasBox_12 : decode cX5_hasBox 12 = .ok (.iconst 1, 1) := by decide +kernel
theorem dX5_hasBox_13 : decode cX5_hasBox 13 = .ok (.goto 4, 3) := by decide +kernel
theorem dX5_hasBox_16 : decode cX5_hasBox 16 = .ok (.iconst 0, 1) := by decide +kernel
theorem dX5_hasBox_17 : decode cX5_hasBox 17 = .ok (.ireturn, 1) := by decide +kernel
theorem dX5_isLiveKey_0 : decode cX5_isLiveKey 0 = .ok (.aload_n 0, 1) := by decide +kernel
theorem dX5_isLiveKey_1 : decode cX5_isLiveKey 1 = .ok (.getfield 21, 3) := by decide +kernel
theorem dX5_isLiveKey_4 : decode cX5_isLiveKey 4 = .ok (.iload_n 1, 1) := by decide +kernel
theorem dX5_isLiveKey_5 : decode cX5_isLiveKey 5 = .ok (.invokestatic 45, 3) := by decide +kernel
theorem dX5_isLiveKey_8 : decode cX5_isLiveKey 8 = .ok (.ireturn, 1) := by decide +kernel
theorem dX5_isLiveBox_0 : decode cX5_isLiveBox 0 = .ok (.aload_n 0, 1) := by decide +kernel
theorem dX5_isLiveBox_1 : decode cX5_isLiveBox 1 = .ok (.getfield 24, 3) := by decide +kernel
theorem dX5_isLiveBox_4 : decode cX5_isLiveBox 4 = .ok (.iload_n 1, 1) := by decide +kernel
theorem dX5_isLiveBox_5 : decode cX5_isLiveBox 5 = .ok (.invokestatic 45, 3) := by decide +kernel
theorem dX5_isLiveBox_8 : decode cX5_isLiveBox 8 = .ok (.ireturn, 1) := by decide +kernel
theorem dX5_isLive_0 : decode cX5_isLive 0 = .ok (.iload_n 1, 1) := by decide +kernel
theorem dX5_isLive_1 : decode cX5_isLive 1 = .ok (.ifCond .ne 11, 3) := by decide +kernel
theorem dX5_isLive_4 : decode cX5_isLive 4 = .ok (.aload_n 0, 1) := by decide +kernel
theorem dX5_isLive_5 : decode cX5_isLive 5 = .ok (.iload_n 2, 1) := by decide +kernel
theorem dX5_isLive_6 : decode cX5_isLive 6 = .ok (.invokevirtual 49, 3) := by decide +kernel
theorem dX5_isLive_9 : decode cX5_isLive 9 = .ok (.goto 8, 3) := by decide +kernel
theorem dX5_isLive_12 : decode cX5_isLive 12 = .ok (.aload_n 0, 1) := by decide +kernel
theorem dX5_isLive_13 : decode cX5_isLive 13 = .ok (.iload_n 2, 1) := by decide +kernel
theorem dX5_isLive_14 : decode cX5_isLive 14 = .ok (.invokevirtual 53, 3) := by decide +kernel
theorem dX5_isLive_17 : decode cX5_isLive 17 = .ok (.ireturn, 1) := by decide +kernel
theorem dX5_isRoot_0 : decode cX5_isRoot 0 = .ok (.aload_n 0, 1) := by decide +kernel
theorem dX5_isRoot_1 : decode cX5_isRoot 1 = .ok (.getfield 32, 3) := by decide +kernel
theorem dX5_isRoot_4 : decode cX5_isRoot 4 = .ok (.iload_n 1, 1) := by decide +kernel
theorem dX5_isRoot_5 : decode cX5_isRoot 5 = .ok (.invokevirtual 56, 3) := by decide +kernel
theorem dX5_isRoot_8 : decode cX5_isRoot 8 = .ok (.bipush (-6), 2) := by decide +kernel
theorem dX5_isRoot_10 : decode cX5_isRoot 10 = .ok (.if_icmp .ne 7, 3) := by decide +kernel
theorem dX5_isRoot_13 : decode cX5_isRoot 13 = .ok (.iconst 1, 1) := by decide +kernel
theorem dX5_isRoot_14 : decode cX5_isRoot 14 = .ok (.goto 4, 3) := by decide +kernel
theorem dX5_isRoot_17 : decode cX5_isRoot 17 = .ok (.iconst 0, 1) := by decide +kernel
theorem dX5_isRoot_18 : decode cX5_isRoot 18 = .ok (.ireturn, 1) := by decide +kernel
theorem dX5_parentOf_0 : decode cX5_parentOf 0 = .ok (.aload_n 0, 1) := by decide +kernel
theorem dX5_parentOf_1 : decode cX5_parentOf 1 = .ok (.getfield 32, 3) := by decide +kernel
theorem dX5_parentOf_4 : decode cX5_parentOf 4 = .ok (.iload_n 1, 1) := by decide +kernel
theorem dX5_parentOf_5 : decode cX5_parentOf 5 = .ok (.invokevirtual 56, 3) := by decide +kernel
theorem dX5_parentOf_8 : decode cX5_parentOf 8 = .ok (.ireturn, 1) := by decide +kernel
theorem dX5_makeOf_0 : decode cX5_makeOf 0 = .ok (.aload_n 0, 1) := by decide +kernel
theorem dX5_makeOf_1 : decode cX5_makeOf 1 = .ok (.getfield 36, 3) := by decide +kernel
theorem dX5_makeOf_4 : decode cX5_makeOf 4 = .ok (.iload_n 1, 1) := by decide +kernel
theorem dX5_makeOf_5 : decode cX5_makeOf 5 = .ok (.invokevirtual 56, 3) := by decide +kernel
theorem dX5_makeOf_8 : decode cX5_makeOf 8 = .ok (.ireturn, 1) := by decide +kernel
theorem dX5_wearOf_0 : decode cX5_wearOf 0 = .ok (.aload_n 0, 1) := by decide +kernel
theorem dX5_wearOf_1 : decode cX5_wearOf 1 = .ok (.getfield 39, 3) := by decide +kernel
theorem dX5_wearOf_4 : decode cX5_wearOf 4 = .ok (.iload_n 1, 1) := by decide +kernel
theorem dX5_wearOf_5 : decode cX5_wearOf 5 = .ok (.invokevirtual 56, 3) := by decide +kernel
theorem dX5_wearOf_8 : decode cX5_wearOf 8 = .ok (.ireturn, 1) := by decide +kernel
theorem dX5_keyOfBox_0 : decode cX5_keyOfBox 0 = .ok (.aload_n 0, 1) := by decide +kernel
theorem dX5_keyOfBox_1 : decode cX5_keyOfBox 1 = .ok (.getfield 42, 3) := by decide +kernel
theorem dX5_keyOfBox_4 : decode cX5_keyOfBox 4 = .ok (.iload_n 1, 1) := by decide +kernel
theorem dX5_keyOfBox_5 : decode cX5_keyOfBox 5 = .ok (.invokevirtual 56, 3) := by decide +kernel
theorem dX5_keyOfBox_8 : decode cX5_keyOfBox 8 = .ok (.ireturn, 1) := by decide +kernel
theorem dX5_leftToClose_0 : decode cX5_leftToClose 0 = .ok (.aload_n 0, 1) := by decide +kernel
theorem dX5_leftToClose_1 : decode cX5_leftToClose 1 = .ok (.getfield 9, 3) := by decide +kernel
theorem dX5_leftToClose_4 : decode cX5_leftToClose 4 = .ok (.aload_n 0, 1) := by decide +kernel
theorem dX5_leftToClose_5 : decode cX5_leftToClose 5 = .ok (.getfield 39, 3) := by decide +kernel
theorem dX5_leftToClose_8 : decode cX5_leftToClose 8 = .ok (.iload_n 1, 1) := by decide +kernel
theorem dX5_leftToClose_9 : decode cX5_leftToClose 9 = .ok (.invokevirtual 56, 3) := by decide +kernel
theorem dX5_leftToClose_12 : decode cX5_leftToClose 12 = .ok (.isub, 1) := by decide +kernel
theorem dX5_leftToClose_13 : decode cX5_leftToClose 13 = .ok (.iconst 0, 1) := by decide +kernel
theorem dX5_leftToClose_14 : decode cX5_leftToClose 14 = .ok (.invokestatic 60, 3) := by decide +kernel
theorem dX5_leftToClose_17 : decode cX5_leftToClose 17 = .ok (.ireturn, 1) := by decide +kernel
theorem dX5_above_0 : decode cX5_above 0 = .ok (.iconst 0, 1) := by decide +kernel
theorem dX5_above_1 : decode cX5_above 1 = .ok (.istore_n 2, 1) := by decide +kernel
theorem dX5_above_2 : decode cX5_above 2 = .ok (.aload_n 0, 1) := by decide +kernel
theorem dX5_above_3 : decode cX5_above 3 = .ok (.getfield 32, 3) := by decide +kernel
theorem dX5_above_6 : decode cX5_above 6 = .ok (.iload_n 1, 1) := by decide +kernel
theorem dX5_above_7 : decode cX5_above 7 = .ok (.invokevirtual 56, 3) := by decide +kernel
theorem dX5_above_10 : decode cX5_above 10 = .ok (.istore_n 3, 1) := by decide +kernel
theorem dX5_above_11 : decode cX5_above 11 = .ok (.iconst 0, 1) := by decide +kernel
theorem dX5_above_12 : decode cX5_above 12 = .ok (.istore 4, 2) := by decide +kernel
theorem dX5_above_14 : decode cX5_above 14 = .ok (.iload 4, 2) := by decide +kernel
theorem dX5_above_16 : decode cX5_above 16 = .ok (.bipush 20, 2) := by decide +kernel
theorem dX5_above_18 : decode cX5_above 18 = .ok (.if_icmp .ge 29, 3) := by decide +kernel
theorem dX5_above_21 : decode cX5_above 21 = .ok (.iload_n 3, 1) := by decide +kernel
theorem dX5_above_22 : decode cX5_above 22 = .ok (.ifCond .lt 25, 3) := by decide +kernel
theorem dX5_above_25 : decode cX5_above 25 = .ok (.iload_n 2, 1) := by decide +kernel
theorem dX5_above_26 : decode cX5_above 26 = .ok (.iload_n 3, 1) := by decide +kernel
theorem dX5_above_27 : decode cX5_above 27 = .ok (.invokestatic 66, 3) := by decide +kernel
theorem dX5_above_30 : decode cX5_above 30 = .ok (.ior, 1) := by decide +kernel
theorem dX5_above_31 : decode cX5_above 31 = .ok (.istore_n 2, 1) := by decide +kernel
theorem dX5_above_32 : decode cX5_above 32 = .ok (.aload_n 0, 1) := by decide +kernel
theorem dX5_above_33 : decode cX5_above 33 = .ok (.getfield 32, 3) := by decide +kernel
theorem dX5_above_36 : decode cX5_above 36 = .ok (.iload_n 3, 1) := by decide +kernel
theorem dX5_above_37 : decode cX5_above 37 = .ok (.invokevirtual 56, 3) := by decide +kernel
theorem dX5_above_40 : decode cX5_above 40 = .ok (.istore_n 3, 1) := by decide +kernel
theorem dX5_above_41 : decode cX5_above 41 = .ok (.iinc 4 1, 3) := by decide +kernel
theorem dX5_above_44 : decode cX5_above 44 = .ok (.goto (-30), 3) := by decide +kernel
theorem dX5_above_47 : decode cX5_above 47 = .ok (.iload_n 2, 1) := by decide +kernel
theorem dX5_above_48 : decode cX5_above 48 = .ok (.ireturn, 1) := by decide +kernel
theorem dX5_aboveBox_0 : decode cX5_aboveBox 0 = .ok (.aload_n 0, 1) := by decide +kernel
theorem dX5_aboveBox_1 : decode cX5_aboveBox 1 = .ok (.getfield 42, 3) := by decide +kernel
theorem dX5_aboveBox_4 : decode cX5_aboveBox 4 = .ok (.iload_n 1, 1) := by decide +kernel
theorem dX5_aboveBox_5 : decode cX5_aboveBox 5 = .ok (.invokevirtual 56, 3) := by decide +kernel
theorem dX5_aboveBox_8 : decode cX5_aboveBox 8 = .ok (.istore_n 2, 1) := by decide +kernel
theorem dX5_aboveBox_9 : decode cX5_aboveBox 9 = .ok (.aload_n 0, 1) := by decide +kernel
theorem dX5_aboveBox_10 : decode cX5_aboveBox 10 = .ok (.iload_n 2, 1) := by decide +kernel
theorem dX5_aboveBox_11 : decode cX5_aboveBox 11 = .ok (.invokevirtual 69, 3) := by decide +kernel
theorem dX5_aboveBox_14 : decode cX5_aboveBox 14 = .ok (.iload_n 2, 1) := by decide +kernel
theorem dX5_aboveBox_15 : decode cX5_aboveBox 15 = .ok (.invokestatic 66, 3) := by decide +kernel
theorem dX5_aboveBox_18 : decode cX5_aboveBox 18 = .ok (.ior, 1) := by decide +kernel
theorem dX5_aboveBox_19 : decode cX5_aboveBox 19 = .ok (.ireturn, 1) := by decide +kernel
theorem dX5_aboveThat_0 : decode cX5_aboveThat 0 = .ok (.iload_n 1, 1) := by decide +kernel
theorem dX5_aboveThat_1 : decode cX5_aboveThat 1 = .ok (.ifCond .ne 11, 3) := by decide +kernel
theorem dX5_aboveThat_4 : decode cX5_aboveThat 4 = .ok (.aload_n 0, 1) := by decide +kernel
theorem dX5_aboveThat_5 : decode cX5_aboveThat 5 = .ok (.iload_n 2, 1) := by decide +kernel
theorem dX5_aboveThat_6 : decode cX5_aboveThat 6 = .ok (.invokevirtual 69, 3) := by decide +kernel
theorem dX5_aboveThat_9 : decode cX5_aboveThat 9 = .ok (.goto 8, 3) := by decide +kernel
theorem dX5_aboveThat_12 : decode cX5_aboveThat 12 = .ok (.aload_n 0, 1) := by decide +kernel
theorem dX5_aboveThat_13 : decode cX5_aboveThat 13 = .ok (.iload_n 2, 1) := by decide +kernel
theorem dX5_aboveThat_14 : decode cX5_aboveThat 14 = .ok (.invokevirtual 72, 3) := by decide +kernel
theorem dX5_aboveThat_17 : decode cX5_aboveThat 17 = .ok (.ireturn, 1) := by decide +kernel
theorem dX5_withAllBelow_0 : decode cX5_withAllBelow 0 = .ok (.iload_n 1, 1) := by decide +kernel
theorem dX5_withAllBelow_1 : decode cX5_withAllBelow 1 = .ok (.invokestatic 66, 3) := by decide +kernel
theorem dX5_withAllBelow_4 : decode cX5_withAllBelow 4 = .ok (.istore_n 2, 1) := by decide +kernel
theorem dX5_withAllBelow_5 : decode cX5_withAllBelow 5 = .ok (.iconst 0, 1) := by decide +kernel
theorem dX5_withAllBelow_6 : decode cX5_withAllBelow 6 = .ok (.istore_n 3, 1) := by decide +kernel
theorem dX5_withAllBelow_7 : decode cX5_withAllBelow 7 = .ok (.iload_n 3, 1) := by decide +kernel
theorem dX5_withAllBelow_8 : decode cX5_withAllBelow 8 = .ok (.aload_n 0, 1) := by decide +kernel
theorem dX5_withAllBelow_9 : decode cX5_withAllBelow 9 = .ok (.getfield 15, 3) := by decide +kernel
theorem dX5_withAllBelow_12 : decode cX5_withAllBelow 12 = .ok (.if_icmp .ge 31, 3) := by decide +kernel
theorem dX5_withAllBelow_15 : decode cX5_withAllBelow 15 = .ok (.iload_n 2, 1) := by decide +kernel
theorem dX5_withAllBelow_16 : decode cX5_withAllBelow 16 = .ok (.aload_n 0, 1) := by decide +kernel
theorem dX5_withAllBelow_17 : decode cX5_withAllBelow 17 = .ok (.getfield 32, 3) := by decide +kernel
theorem dX5_withAllBelow_20 : decode cX5_withAllBelow 20 = .ok (.iload_n 3, 1) := by decide +kernel
theorem dX5_withAllBelow_21 : decode cX5_withAllBelow 21 = .ok (.invokevirtual 56, 3) := by decide +kernel
theorem dX5_withAllBelow_24 : decode cX5_withAllBelow 24 = .ok (.invokestatic 45, 3) := by decide +kernel
theorem dX5_withAllBelow_27 : decode cX5_withAllBelow 27 = .ok (.ifCond .eq 10, 3) := by decide +kernel
theorem dX5_withAllBelow_30 : decode cX5_withAllBelow 30 = .ok (.iload_n 2, 1) := by decide +kernel
theorem dX5_withAllBelow_31 : decode cX5_withAllBelow 31 = .ok (.iload_n 3, 1) := by decide +kernel
theorem dX5_withAllBelow_32 : decode cX5_withAllBelow 32 = .ok (.invokestatic 66, 3) := by decide +kernel
theorem dX5_withAllBelow_35 : decode cX5_withAllBelow 35 = .ok (.ior, 1) := by decide +kernel
theorem dX5_withAllBelow_36 : decode cX5_withAllBelow 36 = .ok (.istore_n 2, 1) := by decide +kernel
theorem dX5_withAllBelow_37 : decode cX5_withAllBelow 37 = .ok (.iinc 3 1, 3) := by decide +kernel
theorem dX5_withAllBelow_40 : decode cX5_withAllBelow 40 = .ok (.goto (-33), 3) := by decide +kernel
theorem dX5_withAllBelow_43 : decode cX5_withAllBelow 43 = .ok (.iload_n 2, 1) := by decide +kernel
theorem dX5_withAllBelow_44 : decode cX5_withAllBelow 44 = .ok (.ireturn, 1) := by decide +kernel
theorem dX5_liveKeysOn_0 : decode cX5_liveKeysOn 0 = .ok (.iconst 0, 1) := by decide +kernel
theorem dX5_liveKeysOn_1 : decode cX5_liveKeysOn 1 = .ok (.istore_n 2, 1) := by decide +kernel
theorem dX5_liveKeysOn_2 : decode cX5_liveKeysOn 2 = .ok (.iconst 0, 1) := by decide +kernel
theorem dX5_liveKeysOn_3 : decode cX5_liveKeysOn 3 = .ok (.istore_n 3, 1) := by decide +kernel
theorem dX5_liveKeysOn_4 : decode cX5_liveKeysOn 4 = .ok (.iload_n 3, 1) := by decide +kernel
theorem dX5_liveKeysOn_5 : decode cX5_liveKeysOn 5 = .ok (.aload_n 0, 1) := by decide +kernel
theorem dX5_liveKeysOn_6 : decode cX5_liveKeysOn 6 = .ok (.getfield 15, 3) := by decide +kernel
theorem dX5_liveKeysOn_9 : decode cX5_liveKeysOn 9 = .ok (.if_icmp .ge 31, 3) := by decide +kernel
theorem dX5_liveKeysOn_12 : decode cX5_liveKeysOn 12 = .ok (.iload_n 1, 1) := by decide +kernel
theorem dX5_liveKeysOn_13 : decode cX5_liveKeysOn 13 = .ok (.aload_n 0, 1) := by decide +kernel
theorem dX5_liveKeysOn_14 : decode cX5_liveKeysOn 14 = .ok (.getfield 32, 3) := by decide +kernel
theorem dX5_liveKeysOn_17 : decode cX5_liveKeysOn 17 = .ok (.iload_n 3, 1) := by decide +kernel
theorem dX5_liveKeysOn_18 : decode cX5_liveKeysOn 18 = .ok (.invokevirtual 56, 3) := by decide +kernel
theorem dX5_liveKeysOn_21 : decode cX5_liveKeysOn 21 = .ok (.invokestatic 45, 3) := by decide +kernel
theorem dX5_liveKeysOn_24 : decode cX5_liveKeysOn 24 = .ok (.ifCond .eq 10, 3) := by decide +kernel
theorem dX5_liveKeysOn_27 : decode cX5_liveKeysOn 27 = .ok (.iload_n 2, 1) := by decide +kernel
theorem dX5_liveKeysOn_28 : decode cX5_liveKeysOn 28 = .ok (.iload_n 3, 1) := by decide +kernel
theorem dX5_liveKeysOn_29 : decode cX5_liveKeysOn 29 = .ok (.invokestatic 66, 3) := by decide +kernel
theorem dX5_liveKeysOn_32 : decode cX5_liveKeysOn 32 = .ok (.ior, 1) := by decide +kernel
theorem dX5_liveKeysOn_33 : decode cX5_liveKeysOn 33 = .ok (.istore_n 2, 1) := by decide +kernel
theorem dX5_liveKeysOn_34 : decode cX5_liveKeysOn 34 = .ok (.iinc 3 1, 3) := by decide +kernel
theorem dX5_liveKeysOn_37 : decode cX5_liveKeysOn 37 = .ok (.goto (-33), 3) := by decide +kernel
theorem dX5_liveKeysOn_40 : decode cX5_liveKeysOn 40 = .ok (.iload_n 2, 1) := by decide +kernel
theorem dX5_liveKeysOn_41 : decode cX5_liveKeysOn 41 = .ok (.aload_n 0, 1) := by decide +kernel
theorem dX5_liveKeysOn_42 : decode cX5_liveKeysOn 42 = .ok (.getfield 21, 3) := by decide +kernel
theorem dX5_liveKeysOn_45 : decode cX5_liveKeysOn 45 = .ok (.iand, 1) := by decide +kernel
theorem dX5_liveKeysOn_46 : decode cX5_liveKeysOn 46 = .ok (.ireturn, 1) := by decide +kernel
theorem dX5_liveBoxesOn_0 : decode cX5_liveBoxesOn 0 = .ok (.iconst 0, 1) := by decide +kernel
theorem dX5_liveBoxesOn_1 : decode cX5_liveBoxesOn 1 = .ok (.istore_n 2, 1) := by decide +kernel
theorem dX5_liveBoxesOn_2 : decode cX5_liveBoxesOn 2 = .ok (.iconst 0, 1) := by decide +kernel
theorem dX5_liveBoxesOn_3 : decode cX5_liveBoxesOn 3 = .ok (.istore_n 3, 1) := by decide +kernel
theorem dX5_liveBoxesOn_4 : decode cX5_liveBoxesOn 4 = .ok (.iload_n 3, 1) := by decide +kernel
theorem dX5_liveBoxesOn_5 : decode cX5_liveBoxesOn 5 = .ok (.aload_n 0, 1) := by decide +kernel
theorem dX5_liveBoxesOn_6 : decode cX5_liveBoxesOn 6 = .ok (.getfield 18, 3) := by decide +kernel
theorem dX5_liveBoxesOn_9 : decode cX5_liveBoxesOn 9 = .ok (.if_icmp .ge 31, 3) := by decide +kernel
theorem dX5_liveBoxesOn_12 : decode cX5_liveBoxesOn 12 = .ok (.iload_n 1, 1) := by decide +kernel
theorem dX5_liveBoxesOn_13 : decode cX5_liveBoxesOn 13 = .ok (.aload_n 0, 1) := by decide +kernel
theorem dX5_liveBoxesOn_14 : decode cX5_liveBoxesOn 14 = .ok (.getfield 42, 3) := by decide +kernel
theorem dX5_liveBoxesOn_17 : decode cX5_liveBoxesOn 17 = .ok (.iload_n 3, 1) := by decide +kernel
theorem dX5_liveBoxesOn_18 : decode cX5_liveBoxesOn 18 = .ok (.invokevirtual 56, 3) := by decide +kernel
theorem dX5_liveBoxesOn_21 : decode cX5_liveBoxesOn 21 = .ok (.invokestatic 45, 3) := by decide +kernel
theorem dX5_liveBoxesOn_24 : decode cX5_liveBoxesOn 24 = .ok (.ifCond .eq 10, 3) := by decide +kernel
theorem dX5_liveBoxesOn_27 : decode cX5_liveBoxesOn 27 = .ok (.iload_n 2, 1) := by decide +kernel
theorem dX5_liveBoxesOn_28 : decode cX5_liveBoxesOn 28 = .ok (.iload_n 3, 1) := by decide +kernel
theorem dX5_liveBoxesOn_29 : decode cX5_liveBoxesOn 29 = .ok (.invokestatic 66, 3) := by decide +kernel
theorem dX5_liveBoxesOn_32 : decode cX5_liveBoxesOn 32 = .ok (.ior, 1) := by decide +kernel
theorem dX5_liveBoxesOn_33 : decode cX5_liveBoxesOn 33 = .ok (.istore_n 2, 1) := by decide +kernel
theorem dX5_liveBoxesOn_34 : decode cX5_liveBoxesOn 34 = .ok (.iinc 3 1, 3) := by decide +kernel
theorem dX5_liveBoxesOn_37 : decode cX5_liveBoxesOn 37 = .ok (.goto (-33), 3) := by decide +kernel
theorem dX5_liveBoxesOn_40 : decode cX5_liveBoxesOn 40 = .ok (.iload_n 2, 1) := by decide +kernel
theorem dX5_liveBoxesOn_41 : decode cX5_liveBoxesOn 41 = .ok (.aload_n 0, 1) := by decide +kernel
theorem dX5_liveBoxesOn_42 : decode cX5_liveBoxesOn 42 = .ok (.getfield 24, 3) := by decide +kernel
theorem dX5_liveBoxesOn_45 : decode cX5_liveBoxesOn 45 = .ok (.iand, 1) := by decide +kernel
theorem dX5_liveBoxesOn_46 : decode cX5_liveBoxesOn 46 = .ok (.ireturn, 1) := by decide +kernel
theorem dX5_wornKeys_0 : decode cX5_wornKeys 0 = .ok (.iconst 0, 1) := by decide +kernel
theorem dX5_wornKeys_1 : decode cX5_wornKeys 1 = .ok (.istore_n 1, 1) := by decide +kernel
theorem dX5_wornKeys_2 : decode cX5_wornKeys 2 = .ok (.iconst 0, 1) := by decide +kernel
theorem dX5_wornKeys_3 : decode cX5_wornKeys 3 = .ok (.istore_n 2, 1) := by decide +kernel
theorem dX5_wornKeys_4 : decode cX5_wornKeys 4 = .ok (.iload_n 2, 1) := by decide +kernel
theorem dX5_wornKeys_5 : decode cX5_wornKeys 5 = .ok (.aload_n 0, 1) := by decide +kernel
theorem dX5_wornKeys_6 : decode cX5_wornKeys 6 = .ok (.getfield 15, 3) := by decide +kernel
theorem dX5_wornKeys_9 : decode cX5_wornKeys 9 = .ok (.if_icmp .ge 24, 3) := by decide +kernel
theorem dX5_wornKeys_12 : decode cX5_wornKeys 12 = .ok (.aload_n 0, 1) := by decide +kernel
theorem dX5_wornKeys_13 : decode cX5_wornKeys 13 = .ok (.iload_n 2, 1) := by decide +kernel
theorem dX5_wornKeys_14 : decode cX5_wornKeys 14 = .ok (.invokevirtual 75, 3) := by decide +kernel
theorem dX5_wornKeys_17 : decode cX5_wornKeys 17 = .ok (.ifCond .ne 10, 3) := by decide +kernel
theorem dX5_wornKeys_20 : decode cX5_wornKeys 20 = .ok (.iload_n 1, 1) := by decide +kernel
theorem dX5_wornKeys_21 : decode cX5_wornKeys 21 = .ok (.iload_n 2, 1) := by decide +kernel
theorem dX5_wornKeys_22 : decode cX5_wornKeys 22 = .ok (.invokestatic 66, 3) := by decide +kernel
theorem dX5_wornKeys_25 : decode cX5_wornKeys 25 = .ok (.ior, 1) := by decide +kernel
theorem dX5_wornKeys_26 : decode cX5_wornKeys 26 = .ok (.istore_n 1, 1) := by decide +kernel
theorem dX5_wornKeys_27 : decode cX5_wornKeys 27 = .ok (.iinc 2 1, 3) := by decide +kernel
theorem dX5_wornKeys_30 : decode cX5_wornKeys 30 = .ok (.goto (-26), 3) := by decide +kernel
theorem dX5_wornKeys_33 : decode cX5_wornKeys 33 = .ok (.iload_n 1, 1) := by decide +kernel
theorem dX5_wornKeys_34 : decode cX5_wornKeys 34 = .ok (.aload_n 0, 1) := by decide +kernel
theorem dX5_wornKeys_35 : decode cX5_wornKeys 35 = .ok (.getfield 21, 3) := by decide +kernel
theorem dX5_wornKeys_38 : decode cX5_wornKeys 38 = .ok (.iand, 1) := by decide +kernel
theorem dX5_wornKeys_39 : decode cX5_wornKeys 39 = .ok (.ireturn, 1) := by decide +kernel
theorem dX5_mostWornKey_0 : decode cX5_mostWornKey 0 = .ok (.bipush (-6), 2) := by decide +kernel
theorem dX5_mostWornKey_2 : decode cX5_mostWornKey 2 = .ok (.istore_n 1, 1) := by decide +kernel
theorem dX5_mostWornKey_3 : decode cX5_mostWornKey 3 = .ok (.iconst 0, 1) := by decide +kernel
theorem dX5_mostWornKey_4 : decode cX5_mostWornKey 4 = .ok (.istore_n 2, 1) := by decide +kernel
theorem dX5_mostWornKey_5 : decode cX5_mostWornKey 5 = .ok (.iload_n 2, 1) := by decide +kernel
theorem dX5_mostWornKey_6 : decode cX5_mostWornKey 6 = .ok (.aload_n 0, 1) := by decide +kernel
theorem dX5_mostWornKey_7 : decode cX5_mostWornKey 7 = .ok (.getfield 15, 3) := by decide +kernel
theorem dX5_mostWornKey_10 : decode cX5_mostWornKey 10 = .ok (.if_icmp .ge 38, 3) := by decide +kernel
theorem dX5_mostWornKey_13 : decode cX5_mostWornKey 13 = .ok (.aload_n 0, 1) := by decide +kernel
theorem dX5_mostWornKey_14 : decode cX5_mostWornKey 14 = .ok (.iload_n 2, 1) := by decide +kernel
theorem dX5_mostWornKey_15 : decode cX5_mostWornKey 15 = .ok (.invokevirtual 49, 3) := by decide +kernel
theorem dX5_mostWornKey_18 : decode cX5_mostWornKey 18 = .ok (.ifCond .eq 24, 3) := by decide +kernel
theorem dX5_mostWornKey_21 : decode cX5_mostWornKey 21 = .ok (.iload_n 1, 1) := by decide +kernel
theorem dX5_mostWornKey_22 : decode cX5_mostWornKey 22 = .ok (.bipush (-6), 2) := by decide +kernel
theorem dX5_mostWornKey_24 : decode cX5_mostWornKey 24 = .ok (.if_icmp .eq 16, 3) := by decide +kernel
theorem dX5_mostWornKey_27 : decode cX5_mostWornKey 27 = .ok (.aload_n 0, 1) := by decide +kernel
theorem dX5_mostWornKey_28 : decode cX5_mostWornKey 28 = .ok (.iload_n 2, 1) := by decide +kernel
theorem dX5_mostWornKey_29 : decode cX5_mostWornKey 29 = .ok (.invokevirtual 75, 3) := by decide +kernel
theorem dX5_mostWornKey_32 : decode cX5_mostWornKey 32 = .ok (.aload_n 0, 1) := by decide +kernel
theorem dX5_mostWornKey_33 : decode cX5_mostWornKey 33 = .ok (.iload_n 1, 1) := by decide +kernel
theorem dX5_mostWornKey_34 : decode cX5_mostWornKey 34 = .ok (.invokevirtual 75, 3) := by decide +kernel
theorem dX5_mostWornKey_37 : decode cX5_mostWornKey 37 = .ok (.if_icmp .ge 5, 3) := by decide +kernel
theorem dX5_mostWornKey_40 : decode cX5_mostWornKey 40 = .ok (.iload_n 2, 1) := by decide +kernel
theorem dX5_mostWornKey_41 : decode cX5_mostWornKey 41 = .ok (.istore_n 1, 1) := by decide +kernel
theorem dX5_mostWornKey_42 : decode cX5_mostWornKey 42 = .ok (.iinc 2 1, 3) := by decide +kernel
theorem dX5_mostWornKey_45 : decode cX5_mostWornKey 45 = .ok (.goto (-40), 3) := by decide +kernel
theorem dX5_mostWornKey_48 : decode cX5_mostWornKey 48 = .ok (.iload_n 1, 1) := by decide +kernel
theorem dX5_mostWornKey_49 : decode cX5_mostWornKey 49 = .ok (.ireturn, 1) := by decide +kernel
theorem dX5_addKey_0 : decode cX5_addKey 0 = .ok (.aload_n 0, 1) := by decide +kernel
theorem dX5_addKey_1 : decode cX5_addKey 1 = .ok (.getfield 32, 3) := by decide +kernel
theorem dX5_addKey_4 : decode cX5_addKey 4 = .ok (.aload_n 0, 1) := by decide +kernel
theorem dX5_addKey_5 : decode cX5_addKey 5 = .ok (.getfield 15, 3) := by decide +kernel
theorem dX5_addKey_8 : decode cX5_addKey 8 = .ok (.iload_n 1, 1) := by decide +kernel
theorem dX5_addKey_9 : decode cX5_addKey 9 = .ok (.invokevirtual 78, 3) := by decide +kernel
theorem dX5_addKey_12 : decode cX5_addKey 12 = .ok (.aload_n 0, 1) := by decide +kernel
theorem dX5_addKey_13 : decode cX5_addKey 13 = .ok (.getfield 36, 3) := by decide +kernel
theorem dX5_addKey_16 : decode cX5_addKey 16 = .ok (.aload_n 0, 1) := by decide +kernel
theorem dX5_addKey_17 : decode cX5_addKey 17 = .ok (.getfield 15, 3) := by decide +kernel
theorem dX5_addKey_20 : decode cX5_addKey 20 = .ok (.iconst 0, 1) := by decide +kernel
theorem dX5_addKey_21 : decode cX5_addKey 21 = .ok (.invokevirtual 78, 3) := by decide +kernel
theorem dX5_addKey_24 : decode cX5_addKey 24 = .ok (.aload_n 0, 1) := by decide +kernel
theorem dX5_addKey_25 : decode cX5_addKey 25 = .ok (.getfield 39, 3) := by decide +kernel
theorem dX5_addKey_28 : decode cX5_addKey 28 = .ok (.aload_n 0, 1) := by decide +kernel
theorem dX5_addKey_29 : decode cX5_addKey 29 = .ok (.getfield 15, 3) := by decide +kernel
theorem dX5_addKey_32 : decode cX5_addKey 32 = .ok (.iconst 0, 1) := by decide +kernel
theorem dX5_addKey_33 : decode cX5_addKey 33 = .ok (.invokevirtual 78, 3) := by decide +kernel
theorem dX5_addKey_36 : decode cX5_addKey 36 = .ok (.aload_n 0, 1) := by decide +kernel
theorem dX5_addKey_37 : decode cX5_addKey 37 = .ok (.dup, 1) := by decide +kernel
theorem dX5_addKey_38 : decode cX5_addKey 38 = .ok (.getfield 21, 3) := by decide +kernel
theorem dX5_addKey_41 : decode cX5_addKey 41 = .ok (.aload_n 0, 1) := by decide +kernel
theorem dX5_addKey_42 : decode cX5_addKey 42 = .ok (.getfield 15, 3) := by decide +kernel
theorem dX5_addKey_45 : decode cX5_addKey 45 = .ok (.invokestatic 66, 3) := by decide +kernel
theorem dX5_addKey_48 : decode cX5_addKey 48 = .ok (.ior, 1) := by decide +kernel
theorem dX5_addKey_49 : decode cX5_addKey 49 = .ok (.putfield 21, 3) := by decide +kernel
theorem dX5_addKey_52 : decode cX5_addKey 52 = .ok (.aload_n 0, 1) := by decide +kernel
theorem dX5_addKey_53 : decode cX5_addKey 53 = .ok (.dup, 1) := by decide +kernel
theorem dX5_addKey_54 : decode cX5_addKey 54 = .ok (.getfield 15, 3) := by decide +kernel
theorem dX5_addKey_57 : decode cX5_addKey 57 = .ok (.iconst 1, 1) := by decide +kernel
theorem dX5_addKey_58 : decode cX5_addKey 58 = .ok (.iadd, 1) := by decide +kernel
theorem dX5_addKey_59 : decode cX5_addKey 59 = .ok (.putfield 15, 3) := by decide +kernel
theorem dX5_addKey_62 : decode cX5_addKey 62 = .ok (.aload_n 0, 1) := by decide +kernel
theorem dX5_addKey_63 : decode cX5_addKey 63 = .ok (.getfield 15, 3) := by decide +kernel
theorem dX5_addKey_66 : decode cX5_addKey 66 = .ok (.iconst 1, 1) := by decide +kernel
theorem dX5_addKey_67 : decode cX5_addKey 67 = .ok (.isub, 1) := by decide +kernel
theorem dX5_addKey_68 : decode cX5_addKey 68 = .ok (.ireturn, 1) := by decide +kernel
theorem dX5_addBox_0 : decode cX5_addBox 0 = .ok (.aload_n 0, 1) := by decide +kernel
theorem dX5_addBox_1 : decode cX5_addBox 1 = .ok (.getfield 42, 3) := by decide +kernel
theorem dX5_addBox_4 : decode cX5_addBox 4 = .ok (.aload_n 0, 1) := by decide +kernel
theorem dX5_addBox_5 : decode cX5_addBox 5 = .ok (.getfield 18, 3) := by decide +kernel
theorem dX5_addBox_8 : decode cX5_addBox 8 = .ok (.iload_n 1, 1) := by decide +kernel
theorem dX5_addBox_9 : decode cX5_addBox 9 = .ok (.invokevirtual 78, 3) := by decide +kernel
theorem dX5_addBox_12 : decode cX5_addBox 12 = .ok (.aload_n 0, 1) := by decide +kernel
theorem dX5_addBox_13 : decode cX5_addBox 13 = .ok (.dup, 1) := by decide +kernel
theorem dX5_addBox_14 : decode cX5_addBox 14 = .ok (.getfield 24, 3) := by decide +kernel
theorem dX5_addBox_17 : decode cX5_addBox 17 = .ok (.aload_n 0, 1) := by decide +kernel
theorem dX5_addBox_18 : decode cX5_addBox 18 = .ok (.getfield 18, 3) := by decide +kernel
theorem dX5_addBox_21 : decode cX5_addBox 21 = .ok (.invokestatic 66, 3) := by decide +kernel
theorem dX5_addBox_24 : decode cX5_addBox 24 = .ok (.ior, 1) := by decide +kernel
theorem dX5_addBox_25 : decode cX5_addBox 25 = .ok (.putfield 24, 3) := by decide +kernel
theorem dX5_addBox_28 : decode cX5_addBox 28 = .ok (.aload_n 0, 1) := by decide +kernel
theorem dX5_addBox_29 : decode cX5_addBox 29 = .ok (.dup, 1) := by decide +kernel
theorem dX5_addBox_30 : decode cX5_addBox 30 = .ok (.getfield 18, 3) := by decide +kernel
theorem dX5_addBox_33 : decode cX5_addBox 33 = .ok (.iconst 1, 1) := by decide +kernel
theorem dX5_addBox_34 : decode cX5_addBox 34 = .ok (.iadd, 1) := by decide +kernel
theorem dX5_addBox_35 : decode cX5_addBox 35 = .ok (.putfield 18, 3) := by decide +kernel
theorem dX5_addBox_38 : decode cX5_addBox 38 = .ok (.aload_n 0, 1) := by decide +kernel
theorem dX5_addBox_39 : decode cX5_addBox 39 = .ok (.getfield 18, 3) := by decide +kernel
theorem dX5_addBox_42 : decode cX5_addBox 42 = .ok (.iconst 1, 1) := by decide +kernel
theorem dX5_addBox_43 : decode cX5_addBox 43 = .ok (.isub, 1) := by decide +kernel
theorem dX5_addBox_44 : decode cX5_addBox 44 = .ok (.ireturn, 1) := by decide +kernel
theorem dX5_startNextMake_0 : decode cX5_startNextMake 0 = .ok (.aload_n 0, 1) := by decide +kernel
theorem dX5_startNextMake_1 : decode cX5_startNextMake 1 = .ok (.getfield 36, 3) := by decide +kernel
theorem dX5_startNextMake_4 : decode cX5_startNextMake 4 = .ok (.iload_n 1, 1) := by decide +kernel
theorem dX5_startNextMake_5 : decode cX5_startNextMake 5 = .ok (.iconst 1, 1) := by decide +kernel
theorem dX5_startNextMake_6 : decode cX5_startNextMake 6 = .ok (.invokevirtual 82, 3) := by decide +kernel
theorem dX5_startNextMake_9 : decode cX5_startNextMake 9 = .ok (.aload_n 0, 1) := by decide +kernel
theorem dX5_startNextMake_10 : decode cX5_startNextMake 10 = .ok (.getfield 39, 3) := by decide +kernel
theorem dX5_startNextMake_13 : decode cX5_startNextMake 13 = .ok (.iload_n 1, 1) := by decide +kernel
theorem dX5_startNextMake_14 : decode cX5_startNextMake 14 = .ok (.iconst 0, 1) := by decide +kernel
theorem dX5_startNextMake_15 : decode cX5_startNextMake 15 = .ok (.invokevirtual 78, 3) := by decide +kernel
theorem dX5_startNextMake_18 : decode cX5_startNextMake 18 = .ok (.return_, 1) := by decide +kernel
theorem dX5_wearDown_0 : decode cX5_wearDown 0 = .ok (.aload_n 0, 1) := by decide +kernel
theorem dX5_wearDown_1 : decode cX5_wearDown 1 = .ok (.getfield 39, 3) := by decide +kernel
theorem dX5_wearDown_4 : decode cX5_wearDown 4 = .ok (.iload_n 1, 1) := by decide +kernel
theorem dX5_wearDown_5 : decode cX5_wearDown 5 = .ok (.iconst 1, 1) := by decide +kernel
theorem dX5_wearDown_6 : decode cX5_wearDown 6 = .ok (.invokevirtual 82, 3) := by decide +kernel
theorem dX5_wearDown_9 : decode cX5_wearDown 9 = .ok (.return_, 1) := by decide +kernel
theorem dX5_endLife_0 : decode cX5_endLife 0 = .ok (.aload_n 0, 1) := by decide +kernel
theorem dX5_endLife_1 : decode cX5_endLife 1 = .ok (.dup, 1) := by decide +kernel
theorem dX5_endLife_2 : decode cX5_endLife 2 = .ok (.getfield 21, 3) := by decide +kernel
theorem dX5_endLife_5 : decode cX5_endLife 5 = .ok (.iload_n 1, 1) := by decide +kernel
theorem dX5_endLife_6 : decode cX5_endLife 6 = .ok (.iconst (-1), 1) := by decide +kernel
theorem dX5_endLife_7 : decode cX5_endLife 7 = .ok (.ixor, 1) := by decide +kernel
theorem dX5_endLife_8 : decode cX5_endLife 8 = .ok (.iand, 1) := by decide +kernel
theorem dX5_endLife_9 : decode cX5_endLife 9 = .ok (.putfield 21, 3) := by decide +kernel
theorem dX5_endLife_12 : decode cX5_endLife 12 = .ok (.aload_n 0, 1) := by decide +kernel
theorem dX5_endLife_13 : decode cX5_endLife 13 = .ok (.dup, 1) := by decide +kernel
theorem dX5_endLife_14 : decode cX5_endLife 14 = .ok (.getfield 24, 3) := by decide +kernel
theorem dX5_endLife_17 : decode cX5_endLife 17 = .ok (.iload_n 2, 1) := by decide +kernel
theorem dX5_endLife_18 : decode cX5_endLife 18 = .ok (.iconst (-1), 1) := by decide +kernel
theorem dX5_endLife_19 : decode cX5_endLife 19 = .ok (.ixor, 1) := by decide +kernel
theorem dX5_endLife_20 : decode cX5_endLife 20 = .ok (.iand, 1) := by decide +kernel
theorem dX5_endLife_21 : decode cX5_endLife 21 = .ok (.putfield 24, 3) := by decide +kernel
theorem dX5_endLife_24 : decode cX5_endLife 24 = .ok (.return_, 1) := by decide +kernel
theorem dX5_become_0 : decode cX5_become 0 = .ok (.aload_n 1, 1) := by decide +kernel
theorem dX5_become_1 : decode cX5_become 1 = .ok (.ifnonnull 4, 3) := by decide +kernel
theorem dX5_become_4 : decode cX5_become 4 = .ok (.return_, 1) := by decide +kernel
theorem dX5_become_5 : decode cX5_become 5 = .ok (.aload_n 0, 1) := by decide +kernel
theorem dX5_become_6 : decode cX5_become 6 = .ok (.aload_n 1, 1) := by decide +kernel
theorem dX5_become_7 : decode cX5_become 7 = .ok (.getfield 9, 3) := by decide +kernel
theorem dX5_become_10 : decode cX5_become 10 = .ok (.putfield 9, 3) := by decide +kernel
theorem dX5_become_13 : decode cX5_become 13 = .ok (.aload_n 0, 1) := by decide +kernel
theorem dX5_become_14 : decode cX5_become 14 = .ok (.aload_n 1, 1) := by decide +kernel
theorem dX5_become_15 : decode cX5_become 15 = .ok (.getfield 15, 3) := by decide +kernel
theorem dX5_become_18 : decode cX5_become 18 = .ok (.putfield 15, 3) := by decide +kernel
theorem dX5_become_21 : decode cX5_become 21 = .ok (.aload_n 0, 1) := by decide +kernel
theorem dX5_become_22 : decode cX5_become 22 = .ok (.aload_n 1, 1) := by decide +kernel
theorem dX5_become_23 : decode cX5_become 23 = .ok (.getfield 18, 3) := by decide +kernel
theorem dX5_become_26 : decode cX5_become 26 = .ok (.putfield 18, 3) := by decide +kernel
theorem dX5_become_29 : decode cX5_become 29 = .ok (.aload_n 0, 1) := by decide +kernel
theorem dX5_become_30 : decode cX5_become 30 = .ok (.aload_n 1, 1) := by decide +kernel
theorem dX5_become_31 : decode cX5_become 31 = .ok (.getfield 21, 3) := by decide +kernel
theorem dX5_become_34 : decode cX5_become 34 = .ok (.putfield 21, 3) := by decide +kernel
theorem dX5_become_37 : decode cX5_become 37 = .ok (.aload_n 0, 1) := by decide +kernel
theorem dX5_become_38 : decode cX5_become 38 = .ok (.aload_n 1, 1) := by decide +kernel
theorem dX5_become_39 : decode cX5_become 39 = .ok (.getfield 24, 3) := by decide +kernel
theorem dX5_become_42 : decode cX5_become 42 = .ok (.putfield 24, 3) := by decide +kernel
theorem dX5_become_45 : decode cX5_become 45 = .ok (.aload_n 0, 1) := by decide +kernel
theorem dX5_become_46 : decode cX5_become 46 = .ok (.getfield 32, 3) := by decide +kernel
theorem dX5_become_49 : decode cX5_become 49 = .ok (.aload_n 1, 1) := by decide +kernel
theorem dX5_become_50 : decode cX5_become 50 = .ok (.getfield 32, 3) := by decide +kernel
theorem dX5_become_53 : decode cX5_become 53 = .ok (.invokevirtual 85, 3) := by decide +kernel
theorem dX5_become_56 : decode cX5_become 56 = .ok (.aload_n 0, 1) := by decide +kernel
theorem dX5_become_57 : decode cX5_become 57 = .ok (.getfield 36, 3) := by decide +kernel
theorem dX5_become_60 : decode cX5_become 60 = .ok (.aload_n 1, 1) := by decide +kernel
theorem dX5_become_61 : decode cX5_become 61 = .ok (.getfield 36, 3) := by decide +kernel
theorem dX5_become_64 : decode cX5_become 64 = .ok (.invokevirtual 85, 3) := by decide +kernel
theorem dX5_become_67 : decode cX5_become 67 = .ok (.aload_n 0, 1) := by decide +kernel
theorem dX5_become_68 : decode cX5_become 68 = .ok (.getfield 39, 3) := by decide +kernel
theorem dX5_become_71 : decode cX5_become 71 = .ok (.aload_n 1, 1) := by decide +kernel
theorem dX5_become_72 : decode cX5_become 72 = .ok (.getfield 39, 3) := by decide +kernel
theorem dX5_become_75 : decode cX5_become 75 = .ok (.invokevirtual 85, 3) := by decide +kernel
theorem dX5_become_78 : decode cX5_become 78 = .ok (.aload_n 0, 1) := by decide +kernel
theorem dX5_become_79 : decode cX5_become 79 = .ok (.getfield 42, 3) := by decide +kernel
theorem dX5_become_82 : decode cX5_become 82 = .ok (.aload_n 1, 1) := by decide +kernel
theorem dX5_become_83 : decode cX5_become 83 = .ok (.getfield 42, 3) := by decide +kernel
theorem dX5_become_86 : decode cX5_become 86 = .ok (.invokevirtual 85, 3) := by decide +kernel
theorem dX5_become_89 : decode cX5_become 89 = .ok (.return_, 1) := by decide +kernel
theorem dX6_init_0 : decode cX6_init 0 = .ok (.aload_n 0, 1) := by decide +kernel
theorem dX6_init_1 : decode cX6_init 1 = .ok (.invokespecial 3, 3) := by decide +kernel
theorem dX6_init_4 : decode cX6_init 4 = .ok (.aload_n 0, 1) := by decide +kernel
theorem dX6_init_5 : decode cX6_init 5 = .ok (.iconst 0, 1) := by decide +kernel
theorem dX6_init_6 : decode cX6_init 6 = .ok (.putfield 9, 3) := by decide +kernel
theorem dX6_init_9 : decode cX6_init 9 = .ok (.aload_n 0, 1) := by decide +kernel
theorem dX6_init_10 : decode cX6_init 10 = .ok (.new 15, 3) := by decide +kernel
theorem dX6_init_13 : decode cX6_init 13 = .ok (.dup, 1) := by decide +kernel
theorem dX6_init_14 : decode cX6_init 14 = .ok (.bipush 120, 2) := by decide +kernel
theorem dX6_init_16 : decode cX6_init 16 = .ok (.invokespecial 17, 3) := by decide +kernel
theorem dX6_init_19 : decode cX6_init 19 = .ok (.putfield 20, 3) := by decide +kernel
theorem dX6_init_22 : decode cX6_init 22 = .ok (.aload_n 0, 1) := by decide +kernel
theorem dX6_init_23 : decode cX6_init 23 = .ok (.new 15, 3) := by decide +kernel
theorem dX6_init_26 : decode cX6_init 26 = .ok (.dup, 1) := by decide +kernel
theorem dX6_init_27 : decode cX6_init 27 = .ok (.bipush 120, 2) := by decide +kernel
theorem dX6_init_29 : decode cX6_init 29 = .ok (.invokespecial 17, 3) := by decide +kernel
theorem dX6_init_32 : decode cX6_init 32 = .ok (.putfield 24, 3) := by decide +kernel
theorem dX6_init_35 : decode cX6_init 35 = .ok (.aload_n 0, 1) := by decide +kernel
theorem dX6_init_36 : decode cX6_init 36 = .ok (.new 15, 3) := by decide +kernel
theorem dX6_init_39 : decode cX6_init 39 = .ok (.dup, 1) := by decide +kernel
theorem dX6_init_40 : decode cX6_init 40 = .ok (.bipush 120, 2) := by decide +kernel
theorem dX6_init_42 : decode cX6_init 42 = .ok (.invokespecial 17, 3) := by decide +kernel
theorem dX6_init_45 : decode cX6_init 45 = .ok (.putfield 27, 3) := by decide +kernel
theorem dX6_init_48 : decode cX6_init 48 = .ok (.aload_n 0, 1) := by decide +kernel
theorem dX6_init_49 : decode cX6_init 49 = .ok (.new 15, 3) := by decide +kernel
theorem dX6_init_52 : decode cX6_init 52 = .ok (.dup, 1) := by decide +kernel
theorem dX6_init_53 : decode cX6_init 53 = .ok (.bipush 120, 2) := by decide +kernel
theorem dX6_init_55 : decode cX6_init 55 = .ok (.invokespecial 17, 3) := by decide +kernel
theorem dX6_init_58 : decode cX6_init 58 = .ok (.putfield 30, 3) := by decide +kernel
theorem dX6_init_61 : decode cX6_init 61 = .ok (.aload_n 0, 1) := by decide +kernel
theorem dX6_init_62 : decode cX6_init 62 = .ok (.new 15, 3) := by decide +kernel
theorem dX6_init_65 : decode cX6_init 65 = .ok (.dup, 1) := by decide +kernel
theorem dX6_init_66 : decode cX6_init 66 = .ok (.bipush 120, 2) := by decide +kernel
theorem dX6_init_68 : decode cX6_init 68 = .ok (.invokespecial 17, 3) := by decide +kernel
theorem dX6_init_71 : decode cX6_init 71 = .ok (.putfield 33, 3) := by decide +kernel
theorem dX6_init_74 : decode cX6_init 74 = .ok (.return_, 1) := by decide +kernel
theorem dX6_isOne_0 : decode cX6_isOne 0 = .ok (.iload_n 1, 1) := by decide +kernel
theorem dX6_isOne_1 : decode cX6_isOne 1 = .ok (.ifCond .lt 15, 3) := by decide +kernel
theorem dX6_isOne_4 : decode cX6_isOne 4 = .ok (.iload_n 1, 1) := by decide +kernel
theorem dX6_isOne_5 : decode cX6_isOne 5 = .ok (.aload_n 0, 1) := by decide +kernel
theorem dX6_isOne_6 : decode cX6_isOne 6 = .ok (.getfield 9, 3) := by decide +kernel
theorem dX6_isOne_9 : decode cX6_isOne 9 = .ok (.if_icmp .ge 7, 3) := by decide +kernel
theorem dX6_isOne_12 : decode cX6_isOne 12 = .ok (.iconst 1, 1) := by decide +kernel
theorem dX6_isOne_13 : decode cX6_isOne 13 = .ok (.goto 4, 3) := by decide +kernel
theorem dX6_isOne_16 : decode cX6_isOne 16 = .ok (.iconst 0, 1) := by decide +kernel
theorem dX6_isOne_17 : decode cX6_isOne 17 = .ok (.ireturn, 1) := by decide +kernel
theorem dX6_haveRoomFor_0 : decode cX6_haveRoomFor 0 = .ok (.aload_n 0, 1) := by decide +kernel
theorem dX6_haveRoomFor_1 : decode cX6_haveRoomFor 1 = .ok (.getfield 9, 3) := by decide +kernel
theorem dX6_haveRoomFor_4 : decode cX6_haveRoomFor 4 = .ok (.iload_n 1, 1) := by decide +kernel
theorem dX6_haveRoomFor_5 : decode cX6_haveRoomFor 5 = .ok (.iadd, 1) := by decide +kernel
theorem dX6_haveRoomFor_6 : decode cX6_haveRoomFor 6 = .ok (.bipush 120, 2) := by decide +kernel
theorem dX6_haveRoomFor_8 : decode cX6_haveRoomFor 8 = .ok (.if_icmp .gt 7, 3) := by decide +kernel
theorem dX6_haveRoomFor_11 : decode cX6_haveRoomFor 11 = .ok (.iconst 1, 1) := by decide +kernel
theorem dX6_haveRoomFor_12 : decode cX6_haveRoomFor 12 = .ok (.goto 4, 3) := by decide +kernel
theorem dX6_haveRoomFor_15 : decode cX6_haveRoomFor 15 = .ok (.iconst 0, 1) := by decide +kernel
theorem dX6_haveRoomFor_16 : decode cX6_haveRoomFor 16 = .ok (.ireturn, 1) := by decide +kernel
theorem dX6_heldKey_0 : decode cX6_heldKey 0 = .ok (.aload_n 0, 1) := by decide +kernel
theorem dX6_heldKey_1 : decode cX6_heldKey 1 = .ok (.getfield 20, 3) := by decide +kernel
theorem dX6_heldKey_4 : decode cX6_heldKey 4 = .ok (.iload_n 1, 1) := by decide +kernel
theorem dX6_heldKey_5 : decode cX6_heldKey 5 = .ok (.invokevirtual 36, 3) := by decide +kernel
theorem dX6_heldKey_8 : decode cX6_heldKey 8 = .ok (.ireturn, 1) := by decide +kernel
theorem dX6_heldWhat_0 : decode cX6_heldWhat 0 = .ok (.aload_n 0, 1) := by decide +kernel
theorem dX6_heldWhat_1 : decode cX6_heldWhat 1 = .ok (.getfield 24, 3) := by decide +kernel
theorem dX6_heldWhat_4 : decode cX6_heldWhat 4 = .ok (.iload_n 1, 1) := by decide +kernel
theorem dX6_heldWhat_5 : decode cX6_heldWhat 5 = .ok (.invokevirtual 36, 3) := by decide +kernel
theorem dX6_heldWhat_8 : decode cX6_heldWhat 8 = .ok (.ireturn, 1) := by decide +kernel
theorem dX6_closer_0 : decode cX6_closer 0 = .ok (.aload_n 0, 1) := by decide +kernel
theorem dX6_closer_1 : decode cX6_closer 1 = .ok (.getfield 27, 3) := by decide +kernel
theorem dX6_closer_4 : decode cX6_closer 4 = .ok (.iload_n 1, 1) := by decide +kernel
theorem dX6_closer_5 : decode cX6_closer 5 = .ok (.invokevirtual 36, 3) := by decide +kernel
theorem dX6_closer_8 : decode cX6_closer 8 = .ok (.ireturn, 1) := by decide +kernel
theorem dX6_closerMake_0 : decode cX6_closerMake 0 = .ok (.aload_n 0, 1) := by decide +kernel
theorem dX6_closerMake_1 : decode cX6_closerMake 1 = .ok (.getfield 30, 3) := by decide +kernel
theorem dX6_closerMake_4 : decode cX6_closerMake 4 = .ok (.iload_n 1, 1) := by decide +kernel
theorem dX6_closerMake_5 : decode cX6_closerMake 5 = .ok (.invokevirtual 36, 3) := by decide +kernel
theorem dX6_closerMake_8 : decode cX6_closerMake 8 = .ok (.ireturn, 1) := by decide +kernel
theorem dX6_standsIn_0 : decode cX6_standsIn 0 = .ok (.aload_n 0, 1) := by decide +kernel
theorem dX6_standsIn_1 : decode cX6_standsIn 1 = .ok (.getfield 33, 3) := by decide +kernel
theorem dX6_standsIn_4 : decode cX6_standsIn 4 = .ok (.iload_n 1, 1) := by decide +kernel
theorem dX6_standsIn_5 : decode cX6_standsIn 5 = .ok (.invokevirtual 36, 3) := by decide +kernel
theorem dX6_standsIn_8 : decode cX6_standsIn 8 = .ok (.iload_n 2, 1) := by decide +kernel
theorem dX6_standsIn_9 : decode cX6_standsIn 9 = .ok (.iand, 1) := by decide +kernel
theorem dX6_standsIn_10 : decode cX6_standsIn 10 = .ok (.ifCond .eq 7, 3) := by decide +kernel
theorem dX6_standsIn_13 : decode cX6_standsIn 13 = .ok (.iconst 1, 1) := by decide +kernel
theorem dX6_standsIn_14 : decode cX6_standsIn 14 = .ok (.goto 4, 3) := by decide +kernel
theorem dX6_standsIn_17 : decode cX6_standsIn 17 = .ok (.iconst 0, 1) := by decide +kernel
theorem dX6_standsIn_18 : decode cX6_standsIn 18 = .ok (.ireturn, 1) := by decide +kernel
theorem dX6_placesOf_0 : decode cX6_placesOf 0 = .ok (.aload_n 0, 1) := by decide +kernel
theorem dX6_placesOf_1 : decode cX6_placesOf 1 = .ok (.getfield 33, 3) := by decide +kernel
theorem dX6_placesOf_4 : decode cX6_placesOf 4 = .ok (.iload_n 1, 1) := by decide +kernel
theorem dX6_placesOf_5 : decode cX6_placesOf 5 = .ok (.invokevirtual 36, 3) := by decide +kernel
theorem dX6_placesOf_8 : decode cX6_placesOf 8 = .ok (.bipush 7, 2) := by decide +kernel
theorem dX6_placesOf_10 : decode cX6_placesOf 10 = .ok (.iand, 1) := by decide +kernel
theorem dX6_placesOf_11 : decode cX6_placesOf 11 = .ok (.ireturn, 1) := by decide +kernel
theorem dX6_standingIn_0 : decode cX6_standingIn 0 = .ok (.iconst 0, 1) := by decide +kernel
theorem dX6_standingIn_1 : decode cX6_standingIn 1 = .ok (.istore_n 2, 1) := by decide +kernel
theorem dX6_standingIn_2 : decode cX6_standingIn 2 = .ok (.iconst 0, 1) := by decide +kernel
theorem dX6_standingIn_3 : decode cX6_standingIn 3 = .ok (.istore_n 3, 1) := by decide +kernel
theorem dX6_standingIn_4 : decode cX6_standingIn 4 = .ok (.iload_n 3, 1) := by decide +kernel
theorem dX6_standingIn_5 : decode cX6_standingIn 5 = .ok (.aload_n 0, 1) := by decide +kernel
theorem dX6_standingIn_6 : decode cX6_standingIn 6 = .ok (.getfield 9, 3) := by decide +kernel
theorem dX6_standingIn_9 : decode cX6_standingIn 9 = .ok (.if_icmp .ge 25, 3) := by decide +kernel
theorem dX6_standingIn_12 : decode cX6_standingIn 12 = .ok (.iload_n 2, 1) := by decide +kernel
theorem dX6_standingIn_13 : decode cX6_standingIn 13 = .ok (.aload_n 0, 1) := by decide +kernel
theorem dX6_standingIn_14 : decode cX6_standingIn 14 = .ok (.getfield 33, 3) := by decide +kernel
theorem dX6_standingIn_17 : decode cX6_standingIn 17 = .ok (.iload_n 3, 1) := by decide +kernel
theorem dX6_standingIn_18 : decode cX6_standingIn 18 = .ok (.invokevirtual 36, 3) := by decide +kernel
theorem dX6_standingIn_21 : decode cX6_standingIn 21 = .ok (.iload_n 1, 1) := by decide +kernel
theorem dX6_standingIn_22 : decode cX6_standingIn 22 = .ok (.iand, 1) := by decide +kernel
theorem dX6_standingIn_23 : decode cX6_standingIn 23 = .ok (.invokestatic 40, 3) := by decide +kernel
theorem dX6_standingIn_26 : decode cX6_standingIn 26 = .ok (.iadd, 1) := by decide +kernel
theorem dX6_standingIn_27 : decode cX6_standingIn 27 = .ok (.istore_n 2, 1) := by decide +kernel
theorem dX6_standingIn_28 : decode cX6_standingIn 28 = .ok (.iinc 3 1, 3) := by decide +kernel
theorem dX6_standingIn_31 : decode cX6_standingIn 31 = .ok (.goto (-27), 3) := by decide +kernel
theorem dX6_standingIn_34 : decode cX6_standingIn 34 = .ok (.iload_n 2, 1) := by decide +kernel
theorem dX6_standingIn_35 : decode cX6_standingIn 35 = .ok (.ireturn, 1) := by decide +kernel
theorem dX6_holdsMake_0 : decode cX6_holdsMake 0 = .ok (.aload_n 0, 1) := by decide +kernel
theorem dX6_holdsMake_1 : decode cX6_holdsMake 1 = .ok (.getfield 20, 3) := by decide +kernel
theorem dX6_holdsMake_4 : decode cX6_holdsMake 4 = .ok (.iload_n 1, 1) := by decide +kernel
theorem dX6_holdsMake_5 : decode cX6_holdsMake 5 = .ok (.invokevirtual 36, 3) := by decide +kernel
theorem dX6_holdsMake_8 : decode cX6_holdsMake 8 = .ok (.iload_n 2, 1) := by decide +kernel
theorem dX6_holdsMake_9 : decode cX6_holdsMake 9 = .ok (.if_icmp .ne 19, 3) := by decide +kernel
theorem dX6_holdsMake_12 : decode cX6_holdsMake 12 = .ok (.aload_n 0, 1) := by decide +kernel
theorem dX6_holdsMake_13 : decode cX6_holdsMake 13 = .ok (.getfield 24, 3) := by decide +kernel
theorem dX6_holdsMake_16 : decode cX6_holdsMake 16 = .ok (.iload_n 1, 1) := by decide +kernel
theorem dX6_holdsMake_17 : decode cX6_holdsMake 17 = .ok (.invokevirtual 36, 3) := by decide +kernel
theorem dX6_holdsMake_20 : decode cX6_holdsMake 20 = .ok (.iload_n 3, 1) := by decide +kernel
theorem dX6_holdsMake_21 : decode cX6_holdsMake 21 = .ok (.if_icmp .ne 7, 3) := by decide +kernel
theorem dX6_holdsMake_24 : decode cX6_holdsMake 24 = .ok (.iconst 1, 1) := by decide +kernel
theorem dX6_holdsMake_25 : decode cX6_holdsMake 25 = .ok (.goto 4, 3) := by decide +kernel
theorem dX6_holdsMake_28 : decode cX6_holdsMake 28 = .ok (.iconst 0, 1) := by decide +kernel
theorem dX6_holdsMake_29 : decode cX6_holdsMake 29 = .ok (.ireturn, 1) := by decide +kernel
theorem dX6_holdsBox_0 : decode cX6_holdsBox 0 = .ok (.aload_n 0, 1) := by decide +kernel
theorem dX6_holdsBox_1 : decode cX6_holdsBox 1 = .ok (.getfield 20, 3) := by decide +kernel
theorem dX6_holdsBox_4 : decode cX6_holdsBox 4 = .ok (.iload_n 1, 1) := by decide +kernel
theorem dX6_holdsBox_5 : decode cX6_holdsBox 5 = .ok (.invokevirtual 36, 3) := by decide +kernel
theorem dX6_holdsBox_8 : decode cX6_holdsBox 8 = .ok (.bipush (-6), 2) := by decide +kernel
theorem dX6_holdsBox_10 : decode cX6_holdsBox 10 = .ok (.if_icmp .ne 19, 3) := by decide +kernel
theorem dX6_holdsBox_13 : decode cX6_holdsBox 13 = .ok (.aload_n 0, 1) := by decide +kernel
theorem dX6_holdsBox_14 : decode cX6_holdsBox 14 = .ok (.getfield 24, 3) := by decide +kernel
theorem dX6_holdsBox_17 : decode cX6_holdsBox 17 = .ok (.iload_n 1, 1) := by decide +kernel
theorem dX6_holdsBox_18 : decode cX6_holdsBox 18 = .ok (.invokevirtual 36, 3) := by decide +kernel
theorem dX6_holdsBox_21 : decode cX6_holdsBox 21 = .ok (.iload_n 2, 1) := by decide +kernel
theorem dX6_holdsBox_22 : decode cX6_holdsBox 22 = .ok (.if_icmp .ne 7, 3) := by decide +kernel
theorem dX6_holdsBox_25 : decode cX6_holdsBox 25 = .ok (.iconst 1, 1) := by decide +kernel
theorem dX6_holdsBox_26 : decode cX6_holdsBox 26 = .ok (.goto 4, 3) := by decide +kernel
theorem dX6_holdsBox_29 : decode cX6_holdsBox 29 = .ok (.iconst 0, 1) := by decide +kernel
theorem dX6_holdsBox_30 : decode cX6_holdsBox 30 = .ok (.ireturn, 1) := by decide +kernel
theorem dX6_inHouseWithKey_0 : decode cX6_inHouseWithKey 0 = .ok (.iconst 0, 1) := by decide +kernel
theorem dX6_inHouseWithKey_1 : decode cX6_inHouseWithKey 1 = .ok (.istore_n 3, 1) := by decide +kernel
theorem dX6_inHouseWithKey_2 : decode cX6_inHouseWithKey 2 = .ok (.iload_n 3, 1) := by decide +kernel
theorem dX6_inHouseWithKey_3 : decode cX6_inHouseWithKey 3 = .ok (.aload_n 0, 1) := by decide +kernel
theorem dX6_inHouseWithKey_4 : decode cX6_inHouseWithKey 4 = .ok (.getfield 9, 3) := by decide +kernel
theorem dX6_inHouseWithKey_7 : decode cX6_inHouseWithKey 7 = .ok (.if_icmp .ge 31, 3) := by decide +kernel
theorem dX6_inHouseWithKey_10 : decode cX6_inHouseWithKey 10 = .ok (.aload_n 0, 1) := by decide +kernel
theorem dX6_inHouseWithKey_11 : decode cX6_inHouseWithKey 11 = .ok (.iload_n 3, 1) := by decide +kernel
theorem dX6_inHouseWithKey_12 : decode cX6_inHouseWithKey 12 = .ok (.bipush 8, 2) := by decide +kernel
theorem dX6_inHouseWithKey_14 : decode cX6_inHouseWithKey 14 = .ok (.invokevirtual 45, 3) := by decide +kernel
theorem dX6_inHouseWithKey_17 : decode cX6_inHouseWithKey 17 = .ok (.ifCond .eq 15, 3) := by decide +kernel
theorem dX6_inHouseWithKey_20 : decode cX6_inHouseWithKey 20 = .ok (.aload_n 0, 1) := by decide +kernel
theorem dX6_inHouseWithKey_21 : decode cX6_inHouseWithKey 21 = .ok (.iload_n 3, 1) := by decide +kernel
theorem dX6_inHouseWithKey_22 : decode cX6_inHouseWithKey 22 = .ok (.iload_n 1, 1) := by decide +kernel
theorem dX6_inHouseWithKey_23 : decode cX6_inHouseWithKey 23 = .ok (.iload_n 2, 1) := by decide +kernel
theorem dX6_inHouseWithKey_24 : decode cX6_inHouseWithKey 24 = .ok (.invokevirtual 49, 3) := by decide +kernel
theorem dX6_inHouseWithKey_27 : decode cX6_inHouseWithKey 27 = .ok (.ifCond .eq 5, 3) := by decide +kernel
theorem dX6_inHouseWithKey_30 : decode cX6_inHouseWithKey 30 = .ok (.iload_n 3, 1) := by decide +kernel
theorem dX6_inHouseWithKey_31 : decode cX6_inHouseWithKey 31 = .ok (.ireturn, 1) := by decide +kernel
theorem dX6_inHouseWithKey_32 : decode cX6_inHouseWithKey 32 = .ok (.iinc 3 1, 3) := by decide +kernel
theorem dX6_inHouseWithKey_35 : decode cX6_inHouseWithKey 35 = .ok (.goto (-33), 3) := by decide +kernel
theorem dX6_inHouseWithKey_38 : decode cX6_inHouseWithKey 38 = .ok (.bipush (-6), 2) := by decide +kernel
theorem dX6_inHouseWithKey_40 : decode cX6_inHouseWithKey 40 = .ok (.ireturn, 1) := by decide +kernel
theorem dX6_inHouseWithBox_0 : decode cX6_inHouseWithBox 0 = .ok (.iconst 0, 1) := by decide +kernel
theorem dX6_inHouseWithBox_1 : decode cX6_inHouseWithBox 1 = .ok (.istore_n 2, 1) := by decide +kernel
theorem dX6_inHouseWithBox_2 : decode cX6_inHouseWithBox 2 = .ok (.iload_n 2, 1) := by decide +kernel
theorem dX6_inHouseWithBox_3 : decode cX6_inHouseWithBox 3 = .ok (.aload_n 0, 1) := by decide +kernel
theorem dX6_inHouseWithBox_4 : decode cX6_inHouseWithBox 4 = .ok (.getfield 9, 3) := by decide +kernel
theorem dX6_inHouseWithBox_7 : decode cX6_inHouseWithBox 7 = .ok (.if_icmp .ge 30, 3) := by decide +kernel
theorem dX6_inHouseWithBox_10 : decode cX6_inHouseWithBox 10 = .ok (.aload_n 0, 1) := by decide +kernel
theorem dX6_inHouseWithBox_11 : decode cX6_inHouseWithBox 11 = .ok (.iload_n 2, 1) := by decide +kernel
theorem dX6_inHouseWithBox_12 : decode cX6_inHouseWithBox 12 = .ok (.bipush 8, 2) := by decide +kernel
theorem dX6_inHouseWithBox_14 : decode cX6_inHouseWithBox 14 = .ok (.invokevirtual 45, 3) := by decide +kernel
theorem dX6_inHouseWithBox_17 : decode cX6_inHouseWithBox 17 = .ok (.ifCond .eq 14, 3) := by decide +kernel
theorem dX6_inHouseWithBox_20 : decode cX6_inHouseWithBox 20 = .ok (.aload_n 0, 1) := by decide +kernel
theorem dX6_inHouseWithBox_21 : decode cX6_inHouseWithBox 21 = .ok (.iload_n 2, 1) := by decide +kernel
theorem dX6_inHouseWithBox_22 : decode cX6_inHouseWithBox 22 = .ok (.iload_n 1, 1) := by decide +kernel
theorem dX6_inHouseWithBox_23 : decode cX6_inHouseWithBox 23 = .ok (.invokevirtual 53, 3) := by decide +kernel
theorem dX6_inHouseWithBox_26 : decode cX6_inHouseWithBox 26 = .ok (.ifCond .eq 5, 3) := by decide +kernel
theorem dX6_inHouseWithBox_29 : decode cX6_inHouseWithBox 29 = .ok (.iload_n 2, 1) := by decide +kernel
theorem dX6_inHouseWithBox_30 : decode cX6_inHouseWithBox 30 = .ok (.ireturn, 1) := by decide +kernel
theorem dX6_inHouseWithBox_31 : decode cX6_inHouseWithBox 31 = .ok (.iinc 2 1, 3) := by decide +kernel
theorem dX6_inHouseWithBox_34 : decode cX6_inHouseWithBox 34 = .ok (.goto (-32), 3) := by decide +kernel
theorem dX6_inHouseWithBox_37 : decode cX6_inHouseWithBox 37 = .ok (.bipush (-6), 2) := by decide +kernel
theorem dX6_inHouseWithBox_39 : decode cX6_inHouseWithBox 39 = .ok (.ireturn, 1) := by decide +kernel
theorem dX6_add_0 : decode cX6_add 0 = .ok (.aload_n 0, 1) := by decide +kernel
theorem dX6_add_1 : decode cX6_add 1 = .ok (.getfield 20, 3) := by decide +kernel
theorem dX6_add_4 : decode cX6_add 4 = .ok (.aload_n 0, 1) := by decide +kernel
theorem dX6_add_5 : decode cX6_add 5 = .ok (.getfield 9, 3) := by decide +kernel
theorem dX6_add_8 : decode cX6_add 8 = .ok (.iload_n 1, 1) := by decide +kernel
theorem dX6_add_9 : decode cX6_add 9 = .ok (.invokevirtual 56, 3) := by decide +kernel
theorem dX6_add_12 : decode cX6_add 12 = .ok (.aload_n 0, 1) := by decide +kernel
theorem dX6_add_13 : decode cX6_add 13 = .ok (.getfield 24, 3) := by decide +kernel
theorem dX6_add_16 : decode cX6_add 16 = .ok (.aload_n 0, 1) := by decide +kernel
theorem dX6_add_17 : decode cX6_add 17 = .ok (.getfield 9, 3) := by decide +kernel
theorem dX6_add_20 : decode cX6_add 20 = .ok (.iload_n 2, 1) := by decide +kernel
theorem dX6_add_21 : decode cX6_add 21 = .ok (.invokevirtual 56, 3) := by decide +kernel
theorem dX6_add_24 : decode cX6_add 24 = .ok (.aload_n 0, 1) := by decide +kernel
theorem dX6_add_25 : decode cX6_add 25 = .ok (.getfield 27, 3) := by decide +kernel
theorem dX6_add_28 : decode cX6_add 28 = .ok (.aload_n 0, 1) := by decide +kernel
theorem dX6_add_29 : decode cX6_add 29 = .ok (.getfield 9, 3) := by decide +kernel
theorem dX6_add_32 : decode cX6_add 32 = .ok (.iload_n 3, 1) := by decide +kernel
theorem dX6_add_33 : decode cX6_add 33 = .ok (.invokevirtual 56, 3) := by decide +kernel
theorem dX6_add_36 : decode cX6_add 36 = .ok (.aload_n 0, 1) := by decide +kernel
theorem dX6_add_37 : decode cX6_add 37 = .ok (.getfield 30, 3) := by decide +kernel
theorem dX6_add_40 : decode cX6_add 40 = .ok (.aload_n 0, 1) := by decide +kernel
theorem dX6_add_41 : decode cX6_add 41 = .ok (.getfield 9, 3) := by decide +kernel
theorem dX6_add_44 : decode cX6_add 44 = .ok (.iload 4, 2) := by decide +kernel
theorem dX6_add_46 : decode cX6_add 46 = .ok (.invokevirtual 56, 3) := by decide +kernel
theorem dX6_add_49 : decode cX6_add 49 = .ok (.aload_n 0, 1) := by decide +kernel
theorem dX6_add_50 : decode cX6_add 50 = .ok (.getfield 33, 3) := by decide +kernel
theorem dX6_add_53 : decode cX6_add 53 = .ok (.aload_n 0, 1) := by decide +kernel
theorem dX6_add_54 : decode cX6_add 54 = .ok (.getfield 9, 3) := by decide +kernel
theorem dX6_add_57 : decode cX6_add 57 = .ok (.bipush 8, 2) := by decide +kernel
theorem dX6_add_59 : decode cX6_add 59 = .ok (.invokevirtual 56, 3) := by decide +kernel
theorem dX6_add_62 : decode cX6_add 62 = .ok (.aload_n 0, 1) := by decide +kernel
theorem dX6_add_63 : decode cX6_add 63 = .ok (.dup, 1) := by decide +kernel
theorem dX6_add_64 : decode cX6_add 64 = .ok (.getfield 9, 3) := by decide +kernel
theorem dX6_add_67 : decode cX6_add 67 = .ok (.iconst 1, 1) := by decide +kernel
theorem dX6_add_68 : decode cX6_add 68 = .ok (.iadd, 1) := by decide +kernel
theorem dX6_add_69 : decode cX6_add 69 = .ok (.putfield 9, 3) := by decide +kernel
theorem dX6_add_72 : decode cX6_add 72 = .ok (.return_, 1) := by decide +kernel
theorem dX6_standAlsoIn_0 : decode cX6_standAlsoIn 0 = .ok (.aload_n 0, 1) := by decide +kernel
theorem dX6_standAlsoIn_1 : decode cX6_standAlsoIn 1 = .ok (.getfield 33, 3) := by decide +kernel
theorem dX6_standAlsoIn_4 : decode cX6_standAlsoIn 4 = .ok (.iload_n 1, 1) := by decide +kernel
theorem dX6_standAlsoIn_5 : decode cX6_standAlsoIn 5 = .ok (.aload_n 0, 1) := by decide +kernel
theorem dX6_standAlsoIn_6 : decode cX6_standAlsoIn 6 = .ok (.getfield 33, 3) := by decide +kernel
theorem dX6_standAlsoIn_9 : decode cX6_standAlsoIn 9 = .ok (.iload_n 1, 1) := by decide +kernel
theorem dX6_standAlsoIn_10 : decode cX6_standAlsoIn 10 = .ok (.invokevirtual 36, 3) := by decide +kernel
theorem dX6_standAlsoIn_13 : decode cX6_standAlsoIn 13 = .ok (.iload_n 2, 1) := by decide +kernel
theorem dX6_standAlsoIn_14 : decode cX6_standAlsoIn 14 = .ok (.invokestatic 60, 3) := by decide +kernel
theorem dX6_standAlsoIn_17 : decode cX6_standAlsoIn 17 = .ok (.ior, 1) := by decide +kernel
theorem dX6_standAlsoIn_18 : decode cX6_standAlsoIn 18 = .ok (.invokevirtual 56, 3) := by decide +kernel
theorem dX6_standAlsoIn_21 : decode cX6_standAlsoIn 21 = .ok (.return_, 1) := by decide +kernel
theorem dX6_burnHolding_0 : decode cX6_burnHolding 0 = .ok (.iconst 0, 1) := by decide +kernel
theorem dX6_burnHolding_1 : decode cX6_burnHolding 1 = .ok (.istore_n 3, 1) := by decide +kernel
theorem dX6_burnHolding_2 : decode cX6_burnHolding 2 = .ok (.iload_n 3, 1) := by decide +kernel
theorem dX6_burnHolding_3 : decode cX6_burnHolding 3 = .ok (.aload_n 0, 1) := by decide +kernel
theorem dX6_burnHolding_4 : decode cX6_burnHolding 4 = .ok (.getfield 9, 3) := by decide +kernel
theorem dX6_burnHolding_7 : decode cX6_burnHolding 7 = .ok (.if_icmp .ge 61, 3) := by decide +kernel
theorem dX6_burnHolding_10 : decode cX6_burnHolding 10 = .ok (.aload_n 0, 1) := by decide +kernel
theorem dX6_burnHolding_11 : decode cX6_burnHolding 11 = .ok (.getfield 20, 3) := by decide +kernel
theorem dX6_burnHolding_14 : decode cX6_burnHolding 14 = .ok (.iload_n 3, 1) := by decide +kernel
theorem dX6_burnHolding_15 : decode cX6_burnHolding 15 = .ok (.invokevirtual 36, 3) := by decide +kernel
theorem dX6_burnHolding_18 : decode cX6_burnHolding 18 = .ok (.bipush (-6), 2) := by decide +kernel
theorem dX6_burnHolding_20 : decode cX6_burnHolding 20 = .ok (.if_icmp .ne 18, 3) := by decide +kernel
theorem dX6_burnHolding_23 : decode cX6_burnHolding 23 = .ok (.iload_n 2, 1) := by decide +kernel
theorem dX6_burnHolding_24 : decode cX6_burnHolding 24 = .ok (.aload_n 0, 1) := by decide +kernel
theorem dX6_burnHolding_25 : decode cX6_burnHolding 25 = .ok (.getfield 24, 3) := by decide +kernel
theorem dX6_burnHolding_28 : decode cX6_burnHolding 28 = .ok (.iload_n 3, 1) := by decide +kernel
theorem dX6_burnHolding_29 : decode cX6_burnHolding 29 = .ok (.invokevirtual 36, 3) := by decide +kernel
theorem dX6_burnHolding_32 : decode cX6_burnHolding 32 = .ok (.invokestatic 63, 3) := by decide +kernel
theorem dX6_burnHolding_35 : decode cX6_burnHolding 35 = .ok (.goto 15, 3) := by decide +kernel
theorem dX6_burnHolding_38 : decode cX6_burnHolding 38 = .ok (.iload_n 1, 1) := by decide +kernel
theorem dX6_burnHolding_39 : decode cX6_burnHolding 39 = .ok (.aload_n 0, 1) := by decide +kernel
theorem dX6_burnHolding_40 : decode cX6_burnHolding 40 = .ok (.getfield 20, 3) := by decide +kernel
theorem dX6_burnHolding_43 : decode cX6_burnHolding 43 = .ok (.iload_n 3, 1) := by decide +kernel
theorem dX6_burnHolding_44 : decode cX6_burnHolding 44 = .ok (.invokevirtual 36, 3) := by decide +kernel
theorem dX6_burnHolding_47 : decode cX6_burnHolding 47 = .ok (.invokestatic 63, 3) := by decide +kernel
theorem dX6_burnHolding_50 : decode cX6_burnHolding 50 = .ok (.istore 4, 2) := by decide +kernel
theorem dX6_burnHolding_52 : decode cX6_burnHolding 52 = .ok (.iload 4, 2) := by decide +kernel
theorem dX6_burnHolding_54 : decode cX6_burnHolding 54 = .ok (.ifCond .eq 8, 3) := by decide +kernel
theorem dX6_burnHolding_57 : decode cX6_burnHolding 57 = .ok (.aload_n 0, 1) := by decide +kernel
theorem dX6_burnHolding_58 : decode cX6_burnHolding 58 = .ok (.iload_n 3, 1) := by decide +kernel
theorem dX6_burnHolding_59 : decode cX6_burnHolding 59 = .ok (.invokevirtual 66, 3) := by decide +kernel
theorem dX6_burnHolding_62 : decode cX6_burnHolding 62 = .ok (.iinc 3 1, 3) := by decide +kernel
theorem dX6_burnHolding_65 : decode cX6_burnHolding 65 = .ok (.goto (-63), 3) := by decide +kernel
theorem dX6_burnHolding_68 : decode cX6_burnHolding 68 = .ok (.return_, 1) := by decide +kernel
theorem dX6_burnOlderThan_0 : decode cX6_burnOlderThan 0 = .ok (.iconst 0, 1) := by decide +kernel
theorem dX6_burnOlderThan_1 : decode cX6_burnOlderThan 1 = .ok (.istore_n 3, 1) := by decide +kernel
theorem dX6_burnOlderThan_2 : decode cX6_burnOlderThan 2 = .ok (.iload_n 3, 1) := by decide +kernel
theorem dX6_burnOlderThan_3 : decode cX6_burnOlderThan 3 = .ok (.aload_n 0, 1) := by decide +kernel
theorem dX6_burnOlderThan_4 : decode cX6_burnOlderThan 4 = .ok (.getfield 9, 3) := by decide +kernel
theorem dX6_burnOlderThan_7 : decode cX6_burnOlderThan 7 = .ok (.if_icmp .ge 86, 3) := by decide +kernel
theorem dX6_burnOlderThan_10 : decode cX6_burnOlderThan 10 = .ok (.aload_n 0, 1) := by decide +kernel
theorem dX6_burnOlderThan_11 : decode cX6_burnOlderThan 11 = .ok (.getfield 20, 3) := by decide +kernel
theorem dX6_burnOlderThan_14 : decode cX6_burnOlderThan 14 = .ok (.iload_n 3, 1) := by decide +kernel
theorem dX6_burnOlderThan_15 : decode cX6_burnOlderThan 15 = .ok (.invokevirtual 36, 3) := by decide +kernel
theorem dX6_burnOlderThan_18 : decode cX6_burnOlderThan 18 = .ok (.iload_n 1, 1) := by decide +kernel
theorem dX6_burnOlderThan_19 : decode cX6_burnOlderThan 19 = .ok (.if_icmp .ne 19, 3) := by decide +kernel
theorem dX6_burnOlderThan_22 : decode cX6_burnOlderThan 22 = .ok (.aload_n 0, 1) := by decide +kernel
theorem dX6_burnOlderThan_23 : decode cX6_burnOlderThan 23 = .ok (.getfield 24, 3) := by decide +kernel
theorem dX6_burnOlderThan_26 : decode cX6_burnOlderThan 26 = .ok (.iload_n 3, 1) := by decide +kernel
theorem dX6_burnOlderThan_27 : decode cX6_burnOlderThan 27 = .ok (.invokevirtual 36, 3) := by decide +kernel
theorem dX6_burnOlderThan_30 : decode cX6_burnOlderThan 30 = .ok (.iload_n 2, 1) := by decide +kernel
theorem dX6_burnOlderThan_31 : decode cX6_burnOlderThan 31 = .ok (.if_icmp .ge 7, 3) := by decide +kernel
theorem dX6_burnOlderThan_34 : decode cX6_burnOlderThan 34 = .ok (.iconst 1, 1) := by decide +kernel
theorem dX6_burnOlderThan_35 : decode cX6_burnOlderThan 35 = .ok (.goto 4, 3) := by decide +kernel
theorem dX6_burnOlderThan_38 : decode cX6_burnOlderThan 38 = .ok (.iconst 0, 1) := by decide +kernel
theorem dX6_burnOlderThan_39 : decode cX6_burnOlderThan 39 = .ok (.istore 4, 2) := by decide +kernel
theorem dX6_burnOlderThan_41 : decode cX6_burnOlderThan 41 = .ok (.aload_n 0, 1) := by decide +kernel
theorem dX6_burnOlderThan_42 : decode cX6_burnOlderThan 42 = .ok (.getfield 27, 3) := by decide +kernel
theorem dX6_burnOlderThan_45 : decode cX6_burnOlderThan 45 = .ok (.iload_n 3, 1) := by decide +kernel
theorem dX6_burnOlderThan_46 : decode cX6_burnOlderThan 46 = .ok (.invokevirtual 36, 3) := by decide +kernel
theorem dX6_burnOlderThan_49 : decode cX6_burnOlderThan 49 = .ok (.iload_n 1, 1) := by decide +kernel
theorem dX6_burnOlderThan_50 : decode cX6_burnOlderThan 50 = .ok (.if_icmp .ne 19, 3) := by decide +kernel
theorem dX6_burnOlderThan_53 : decode cX6_burnOlderThan 53 = .ok (.aload_n 0, 1) := by decide +kernel
theorem dX6_burnOlderThan_54 : decode cX6_burnOlderThan 54 = .ok (.getfield 30, 3) := by decide +kernel
theorem dX6_burnOlderThan_57 : decode cX6_burnOlderThan 57 = .ok (.iload_n 3, 1) := by decide +kernel
theorem dX6_burnOlderThan_58 : decode cX6_burnOlderThan 58 = .ok (.invokevirtual 36, 3) := by decide +kernel
theorem dX6_burnOlderThan_61 : decode cX6_burnOlderThan 61 = .ok (.iload_n 2, 1) := by decide +kernel
theorem dX6_burnOlderThan_62 : decode cX6_burnOlderThan 62 = .ok (.if_icmp .ge 7, 3) := by decide +kernel
theorem dX6_burnOlderThan_65 : decode cX6_burnOlderThan 65 = .ok (.iconst 1, 1) := by decide +kernel
theorem dX6_burnOlderThan_66 : decode cX6_burnOlderThan 66 = .ok (.goto 4, 3) := by decide +kernel
theorem dX6_burnOlderThan_69 : decode cX6_burnOlderThan 69 = .ok (.iconst 0, 1) := by decide +kernel
theorem dX6_burnOlderThan_70 : decode cX6_burnOlderThan 70 = .ok (.istore 5, 2) := by decide +kernel
theorem dX6_burnOlderThan_72 : decode cX6_burnOlderThan 72 = .ok (.iload 4, 2) := by decide +kernel
theorem dX6_burnOlderThan_74 : decode cX6_burnOlderThan 74 = .ok (.ifCond .ne 8, 3) := by decide +kernel
theorem dX6_burnOlderThan_77 : decode cX6_burnOlderThan 77 = .ok (.iload 5, 2) := by decide +kernel
theorem dX6_burnOlderThan_79 : decode cX6_burnOlderThan 79 = .ok (.ifCond .eq 8, 3) := by decide +kernel
theorem dX6_burnOlderThan_82 : decode cX6_burnOlderThan 82 = .ok (.aload_n 0, 1) := by decide +kernel
theorem dX6_burnOlderThan_83 : decode cX6_burnOlderThan 83 = .ok (.iload_n 3, 1) := by decide +kernel
theorem dX6_burnOlderThan_84 : decode cX6_burnOlderThan 84 = .ok (.invokevirtual 66, 3) := by decide +kernel
theorem dX6_burnOlderThan_87 : decode cX6_burnOlderThan 87 = .ok (.iinc 3 1, 3) := by decide +kernel
theorem dX6_burnOlderThan_90 : decode cX6_burnOlderThan 90 = .ok (.goto (-88), 3) := by decide +kernel
theorem dX6_burnOlderThan_93 : decode cX6_burnOlderThan 93 = .ok (.return_, 1) := by decide +kernel
theorem dX6_burn_0 : decode cX6_burn 0 = .ok (.aload_n 0, 1) := by decide +kernel
theorem dX6_burn_1 : decode cX6_burn 1 = .ok (.getfield 33, 3) := by decide +kernel
theorem dX6_burn_4 : decode cX6_burn 4 = .ok (.iload_n 1, 1) := by decide +kernel
theorem dX6_burn_5 : decode cX6_burn 5 = .ok (.aload_n 0, 1) := by decide +kernel
theorem dX6_burn_6 : decode cX6_burn 6 = .ok (.getfield 33, 3) := by decide +kernel
theorem dX6_burn_9 : decode cX6_burn 9 = .ok (.iload_n 1, 1) := by decide +kernel
theorem dX6_burn_10 : decode cX6_burn 10 = .ok (.invokevirtual 36, 3) := by decide +kernel
theorem dX6_burn_13 : decode cX6_burn 13 = .ok (.bipush 7, 2) := by decide +kernel
theorem dX6_burn_15 : decode cX6_burn 15 = .ok (.iand, 1) := by decide +kernel
theorem dX6_burn_16 : decode cX6_burn 16 = .ok (.invokevirtual 56, 3) := by decide +kernel
theorem dX6_burn_19 : decode cX6_burn 19 = .ok (.return_, 1) := by decide +kernel
theorem dX6_become_0 : decode cX6_become 0 = .ok (.aload_n 1, 1) := by decide +kernel
theorem dX6_become_1 : decode cX6_become 1 = .ok (.ifnonnull 4, 3) := by decide +kernel
theorem dX6_become_4 : decode cX6_become 4 = .ok (.return_, 1) := by decide +kernel
theorem dX6_become_5 : decode cX6_become 5 = .ok (.aload_n 0, 1) := by decide +kernel
theorem dX6_become_6 : decode cX6_become 6 = .ok (.aload_n 1, 1) := by decide +kernel
theorem dX6_become_7 : decode cX6_become 7 = .ok (.getfield 9, 3) := by decide +kernel
theorem dX6_become_10 : decode cX6_become 10 = .ok (.putfield 9, 3) := by decide +kernel
theorem dX6_become_13 : decode cX6_become 13 = .ok (.aload_n 0, 1) := by decide +kernel
theorem dX6_become_14 : decode cX6_become 14 = .ok (.getfield 20, 3) := by decide +kernel
theorem dX6_become_17 : decode cX6_become 17 = .ok (.aload_n 1, 1) := by decide +kernel
theorem dX6_become_18 : decode cX6_become 18 = .ok (.getfield 20, 3) := by decide +kernel
theorem dX6_become_21 : decode cX6_become 21 = .ok (.invokevirtual 69, 3) := by decide +kernel
theorem dX6_become_24 : decode cX6_become 24 = .ok (.aload_n 0, 1) := by decide +kernel
theorem dX6_become_25 : decode cX6_become 25 = .ok (.getfield 24, 3) := by decide +kernel
theorem dX6_become_28 : decode cX6_become 28 = .ok (.aload_n 1, 1) := by decide +kernel
theorem dX6_become_29 : decode cX6_become 29 = .ok (.getfield 24, 3) := by decide +kernel
theorem dX6_become_32 : decode cX6_become 32 = .ok (.invokevirtual 69, 3) := by decide +kernel
theorem dX6_become_35 : decode cX6_become 35 = .ok (.aload_n 0, 1) := by decide +kernel
theorem dX6_become_36 : decode cX6_become 36 = .ok (.getfield 27, 3) := by decide +kernel
theorem dX6_become_39 : decode cX6_become 39 = .ok (.aload_n 1, 1) := by decide +kernel
theorem dX6_become_40 : decode cX6_become 40 = .ok (.getfield 27, 3) := by decide +kernel
theorem dX6_become_43 : decode cX6_become 43 = .ok (.invokevirtual 69, 3) := by decide +kernel
theorem dX6_become_46 : decode cX6_become 46 = .ok (.aload_n 0, 1) := by decide +kernel
theorem dX6_become_47 : decode cX6_become 47 = .ok (.getfield 30, 3) := by decide +kernel
theorem dX6_become_50 : decode cX6_become 50 = .ok (.aload_n 1, 1) := by decide +kernel
theorem dX6_become_51 : decode cX6_become 51 = .ok (.getfield 30, 3) := by decide +kernel
theorem dX6_become_54 : decode cX6_become 54 = .ok (.invokevirtual 69, 3) := by decide +kernel
theorem dX6_become_57 : decode cX6_become 57 = .ok (.aload_n 0, 1) := by decide +kernel
theorem dX6_become_58 : decode cX6_become 58 = .ok (.getfield 33, 3) := by decide +kernel
theorem dX6_become_61 : decode cX6_become 61 = .ok (.aload_n 1, 1) := by decide +kernel
theorem dX6_become_62 : decode cX6_become 62 = .ok (.getfield 33, 3) := by decide +kernel
theorem dX6_become_65 : decode cX6_become 65 = .ok (.invokevirtual 69, 3) := by decide +kernel
theorem dX6_become_68 : decode cX6_become 68 = .ok (.return_, 1) := by decide +kernel
theorem dX7_init_0 : decode cX7_init 0 = .ok (.aload_n 0, 1) := by decide +kernel
theorem dX7_init_1 : decode cX7_init 1 = .ok (.invokespecial 1, 3) := by decide +kernel
theorem dX7_init_4 : decode cX7_init 4 = .ok (.aload_n 0, 1) := by decide +kernel
theorem dX7_init_5 : decode cX7_init 5 = .ok (.new 7, 3) := by decide +kernel
theorem dX7_init_8 : decode cX7_init 8 = .ok (.dup, 1) := by decide +kernel
theorem dX7_init_9 : decode cX7_init 9 = .ok (.invokespecial 9, 3) := by decide +kernel
theorem dX7_init_12 : decode cX7_init 12 = .ok (.putfield 10, 3) := by decide +kernel
theorem dX7_init_15 : decode cX7_init 15 = .ok (.aload_n 0, 1) := by decide +kernel
theorem dX7_init_16 : decode cX7_init 16 = .ok (.new 16, 3) := by decide +kernel
theorem dX7_init_19 : decode cX7_init 19 = .ok (.dup, 1) := by decide +kernel
theorem dX7_init_20 : decode cX7_init 20 = .ok (.invokespecial 18, 3) := by decide +kernel
theorem dX7_init_23 : decode cX7_init 23 = .ok (.putfield 19, 3) := by decide +kernel
theorem dX7_init_26 : decode cX7_init 26 = .ok (.aload_n 0, 1) := by decide +kernel
theorem dX7_init_27 : decode cX7_init 27 = .ok (.new 23, 3) := by decide +kernel
theorem dX7_init_30 : decode cX7_init 30 = .ok (.dup, 1) := by decide +kernel
theorem dX7_init_31 : decode cX7_init 31 = .ok (.invokespecial 25, 3) := by decide +kernel
theorem dX7_init_34 : decode cX7_init 34 = .ok (.putfield 26, 3) := by decide +kernel
theorem dX7_init_37 : decode cX7_init 37 = .ok (.aload_n 0, 1) := by decide +kernel
theorem dX7_init_38 : decode cX7_init 38 = .ok (.new 30, 3) := by decide +kernel
theorem dX7_init_41 : decode cX7_init 41 = .ok (.dup, 1) := by decide +kernel
theorem dX7_init_42 : decode cX7_init 42 = .ok (.invokespecial 32, 3) := by decide +kernel
theorem dX7_init_45 : decode cX7_init 45 = .ok (.putfield 33, 3) := by decide +kernel
theorem dX7_init_48 : decode cX7_init 48 = .ok (.aload_n 0, 1) := by decide +kernel
theorem dX7_init_49 : decode cX7_init 49 = .ok (.iconst 2, 1) := by decide +kernel
theorem dX7_init_50 : decode cX7_init 50 = .ok (.anewarray 7, 3) := by decide +kernel
theorem dX7_init_53 : decode cX7_init 53 = .ok (.putfield 37, 3) := by decide +kernel
theorem dX7_init_56 : decode cX7_init 56 = .ok (.return_, 1) := by decide +kernel
theorem dX7_wear_0 : decode cX7_wear 0 = .ok (.aload_n 0, 1) := by decide +kernel
theorem dX7_wear_1 : decode cX7_wear 1 = .ok (.getfield 33, 3) := by decide +kernel
theorem dX7_wear_4 : decode cX7_wear 4 = .ok (.aload_n 0, 1) := by decide +kernel
theorem dX7_wear_5 : decode cX7_wear 5 = .ok (.getfield 10, 3) := by decide +kernel
theorem dX7_wear_8 : decode cX7_wear 8 = .ok (.invokevirtual 41, 3) := by decide +kernel
theorem dX7_wear_11 : decode cX7_wear 11 = .ok (.aload_n 0, 1) := by decide +kernel
theorem dX7_wear_12 : decode cX7_wear 12 = .ok (.getfield 33, 3) := by decide +kernel
theorem dX7_wear_15 : decode cX7_wear 15 = .ok (.aload_n 0, 1) := by decide +kernel
theorem dX7_wear_16 : decode cX7_wear 16 = .ok (.getfield 10, 3) := by decide +kernel
theorem dX7_wear_19 : decode cX7_wear 19 = .ok (.iload_n 1, 1) := by decide +kernel
theorem dX7_wear_20 : decode cX7_wear 20 = .ok (.invokevirtual 45, 3) := by decide +kernel
theorem dX7_wear_23 : decode cX7_wear 23 = .ok (.invokevirtual 49, 3) := by decide +kernel
theorem dX7_wear_26 : decode cX7_wear 26 = .ok (.ireturn, 1) := by decide +kernel
theorem dX7_key_0 : decode cX7_key 0 = .ok (.aload_n 0, 1) := by decide +kernel
theorem dX7_key_1 : decode cX7_key 1 = .ok (.getfield 33, 3) := by decide +kernel
theorem dX7_key_4 : decode cX7_key 4 = .ok (.aload_n 0, 1) := by decide +kernel
theorem dX7_key_5 : decode cX7_key 5 = .ok (.getfield 10, 3) := by decide +kernel
theorem dX7_key_8 : decode cX7_key 8 = .ok (.invokevirtual 41, 3) := by decide +kernel
theorem dX7_key_11 : decode cX7_key 11 = .ok (.aload_n 0, 1) := by decide +kernel
theorem dX7_key_12 : decode cX7_key 12 = .ok (.getfield 33, 3) := by decide +kernel
theorem dX7_key_15 : decode cX7_key 15 = .ok (.aload_n 0, 1) := by decide +kernel
theorem dX7_key_16 : decode cX7_key 16 = .ok (.getfield 10, 3) := by decide +kernel
theorem dX7_key_19 : decode cX7_key 19 = .ok (.iload_n 1, 1) := by decide +kernel
theorem dX7_key_20 : decode cX7_key 20 = .ok (.invokevirtual 52, 3) := by decide +kernel
theorem dX7_key_23 : decode cX7_key 23 = .ok (.invokevirtual 49, 3) := by decide +kernel
theorem dX7_key_26 : decode cX7_key 26 = .ok (.ireturn, 1) := by decide +kernel
theorem dX7_box_0 : decode cX7_box 0 = .ok (.aload_n 0, 1) := by decide +kernel
theorem dX7_box_1 : decode cX7_box 1 = .ok (.getfield 33, 3) := by decide +kernel
theorem dX7_box_4 : decode cX7_box 4 = .ok (.aload_n 0, 1) := by decide +kernel
theorem dX7_box_5 : decode cX7_box 5 = .ok (.getfield 10, 3) := by decide +kernel
theorem dX7_box_8 : decode cX7_box 8 = .ok (.invokevirtual 41, 3) := by decide +kernel
theorem dX7_box_11 : decode cX7_box 11 = .ok (.aload_n 0, 1) := by decide +kernel
theorem dX7_box_12 : decode cX7_box 12 = .ok (.getfield 33, 3) := by decide +kernel
theorem dX7_box_15 : decode cX7_box 15 = .ok (.aload_n 0, 1) := by decide +kernel
theorem dX7_box_16 : decode cX7_box 16 = .ok (.getfield 10, 3) := by decide +kernel
theorem dX7_box_19 : decode cX7_box 19 = .ok (.iload_n 1, 1) := by decide +kernel
theorem dX7_box_20 : decode cX7_box 20 = .ok (.invokevirtual 55, 3) := by decide +kernel
theorem dX7_box_23 : decode cX7_box 23 = .ok (.invokevirtual 49, 3) := by decide +kernel
theorem dX7_box_26 : decode cX7_box 26 = .ok (.ireturn, 1) := by decide +kernel
theorem dX7_copy_0 : decode cX7_copy 0 = .ok (.aload_n 0, 1) := by decide +kernel
theorem dX7_copy_1 : decode cX7_copy 1 = .ok (.getfield 33, 3) := by decide +kernel
theorem dX7_copy_4 : decode cX7_copy 4 = .ok (.aload_n 0, 1) := by decide +kernel
theorem dX7_copy_5 : decode cX7_copy 5 = .ok (.getfield 10, 3) := by decide +kernel
theorem dX7_copy_8 : decode cX7_copy 8 = .ok (.invokevirtual 41, 3) := by decide +kernel
theorem dX7_copy_11 : decode cX7_copy 11 = .ok (.aload_n 0, 1) := by decide +kernel
theorem dX7_copy_12 : decode cX7_copy 12 = .ok (.getfield 33, 3) := by decide +kernel
theorem dX7_copy_15 : decode cX7_copy 15 = .ok (.aload_n 0, 1) := by decide +kernel
theorem dX7_copy_16 : decode cX7_copy 16 = .ok (.getfield 10, 3) := by decide +kernel
theorem dX7_copy_19 : decode cX7_copy 19 = .ok (.iload_n 1, 1) := by decide +kernel
theorem dX7_copy_20 : decode cX7_copy 20 = .ok (.iload_n 2, 1) := by decide +kernel
theorem dX7_copy_21 : decode cX7_copy 21 = .ok (.invokevirtual 58, 3) := by decide +kernel
theorem dX7_copy_24 : decode cX7_copy 24 = .ok (.invokevirtual 49, 3) := by decide +kernel
theorem dX7_copy_27 : decode cX7_copy 27 = .ok (.ireturn, 1) := by decide +kernel
theorem dX7_renew_0 : decode cX7_renew 0 = .ok (.aload_n 0, 1) := by decide +kernel
theorem dX7_renew_1 : decode cX7_renew 1 = .ok (.getfield 33, 3) := by decide +kernel
theorem dX7_renew_4 : decode cX7_renew 4 = .ok (.aload_n 0, 1) := by decide +kernel
theorem dX7_renew_5 : decode cX7_renew 5 = .ok (.getfield 10, 3) := by decide +kernel
theorem dX7_renew_8 : decode cX7_renew 8 = .ok (.invokevirtual 41, 3) := by decide +kernel
theorem dX7_renew_11 : decode cX7_renew 11 = .ok (.aload_n 0, 1) := by decide +kernel
theorem dX7_renew_12 : decode cX7_renew 12 = .ok (.getfield 33, 3) := by decide +kernel
theorem dX7_renew_15 : decode cX7_renew 15 = .ok (.aload_n 0, 1) := by decide +kernel
theorem dX7_renew_16 : decode cX7_renew 16 = .ok (.getfield 10, 3) := by decide +kernel
theorem dX7_renew_19 : decode cX7_renew 19 = .ok (.iload_n 1, 1) := by decide +kernel
theorem dX7_renew_20 : decode cX7_renew 20 = .ok (.invokevirtual 62, 3) := by decide +kernel
theorem dX7_renew_23 : decode cX7_renew 23 = .ok (.invokevirtual 49, 3) := by decide +kernel
theorem dX7_renew_26 : decode cX7_renew 26 = .ok (.ireturn, 1) := by decide +kernel
theorem dX7_throwKey_0 : decode cX7_throwKey 0 = .ok (.aload_n 0, 1) := by decide +kernel
theorem dX7_throwKey_1 : decode cX7_throwKey 1 = .ok (.getfield 33, 3) := by decide +kernel
theorem dX7_throwKey_4 : decode cX7_throwKey 4 = .ok (.aload_n 0, 1) := by decide +kernel
theorem dX7_throwKey_5 : decode cX7_throwKey 5 = .ok (.getfield 10, 3) := by decide +kernel
theorem dX7_throwKey_8 : decode cX7_throwKey 8 = .ok (.invokevirtual 41, 3) := by decide +kernel
theorem dX7_throwKey_11 : decode cX7_throwKey 11 = .ok (.aload_n 0, 1) := by decide +kernel
theorem dX7_throwKey_12 : decode cX7_throwKey 12 = .ok (.getfield 33, 3) := by decide +kernel
theorem dX7_throwKey_15 : decode cX7_throwKey 15 = .ok (.aload_n 0, 1) := by decide +kernel
theorem dX7_throwKey_16 : decode cX7_throwKey 16 = .ok (.getfield 10, 3) := by decide +kernel
theorem dX7_throwKey_19 : decode cX7_throwKey 19 = .ok (.iconst 0, 1) := by decide +kernel
theorem dX7_throwKey_20 : decode cX7_throwKey 20 = .ok (.iload_n 1, 1) := by decide +kernel
theorem dX7_throwKey_21 : decode cX7_throwKey 21 = .ok (.invokevirtual 65, 3) := by decide +kernel
theorem dX7_throwKey_24 : decode cX7_throwKey 24 = .ok (.invokevirtual 49, 3) := by decide +kernel
theorem dX7_throwKey_27 : decode cX7_throwKey 27 = .ok (.ireturn, 1) := by decide +kernel
theorem dX7_throwBox_0 : decode cX7_throwBox 0 = .ok (.aload_n 0, 1) := by decide +kernel
theorem dX7_throwBox_1 : decode cX7_throwBox 1 = .ok (.getfield 33, 3) := by decide +kernel
theorem dX7_throwBox_4 : decode cX7_throwBox 4 = .ok (.aload_n 0, 1) := by decide +kernel
theorem dX7_throwBox_5 : decode cX7_throwBox 5 = .ok (.getfield 10, 3) := by decide +kernel
theorem dX7_throwBox_8 : decode cX7_throwBox 8 = .ok (.invokevirtual 41, 3) := by decide +kernel
theorem dX7_throwBox_11 : decode cX7_throwBox 11 = .ok (.aload_n 0, 1) := by decide +kernel
theorem dX7_throwBox_12 : decode cX7_throwBox 12 = .ok (.getfield 33, 3) := by decide +kernel
theorem dX7_throwBox_15 : decode cX7_throwBox 15 = .ok (.aload_n 0, 1) := by decide +kernel
theorem dX7_throwBox_16 : decode cX7_throwBox 16 = .ok (.getfield 10, 3) := by decide +kernel
theorem dX7_throwBox_19 : decode cX7_throwBox 19 = .ok (.iconst 1, 1) := by decide +kernel
theorem dX7_throwBox_20 : decode cX7_throwBox 20 = .ok (.iload_n 1, 1) := by decide +kernel
theorem dX7_throwBox_21 : decode cX7_throwBox 21 = .ok (.invokevirtual 65, 3) := by decide +kernel
theorem dX7_throwBox_24 : decode cX7_throwBox 24 = .ok (.invokevirtual 49, 3) := by decide +kernel
theorem dX7_throwBox_27 : decode cX7_throwBox 27 = .ok (.ireturn, 1) := by decide +kernel
theorem dX7_ofKey_0 : decode cX7_ofKey 0 = .ok (.aload_n 0, 1) := by decide +kernel
theorem dX7_ofKey_1 : decode cX7_ofKey 1 = .ok (.getfield 10, 3) := by decide +kernel
theorem dX7_ofKey_4 : decode cX7_ofKey 4 = .ok (.getfield 68, 3) := by decide +kernel
theorem dX7_ofKey_7 : decode cX7_ofKey 7 = .ok (.astore_n 3, 1) := by decide +kernel
theorem dX7_ofKey_8 : decode cX7_ofKey 8 = .ok (.aload_n 3, 1) := by decide +kernel
theorem dX7_ofKey_9 : decode cX7_ofKey 9 = .ok (.iload_n 1, 1) := by decide +kernel
theorem dX7_ofKey_10 : decode cX7_ofKey 10 = .ok (.invokevirtual 72, 3) := by decide +kernel
theorem dX7_ofKey_13 : decode cX7_ofKey 13 = .ok (.ifCond .ne 5, 3) := by decide +kernel
theorem dX7_ofKey_16 : decode cX7_ofKey 16 = .ok (.iconst (-1), 1) := by decide +kernel
theorem dX7_ofKey_17 : decode cX7_ofKey 17 = .ok (.ireturn, 1) := by decide +kernel
theorem dX7_ofKey_18 : decode cX7_ofKey 18 = .ok (.iload_n 2, 1) := by decide +kernel
theorem dX7_ofKey_19 : decode cX7_ofKey 19 = .ok (.tableswitch 95 0 6 #[41, 47, 56, 62, 68, 77, 86], 41) := by decide +kernel
theorem dX7_ofKey_60 : decode cX7_ofKey 60 = .ok (.aload_n 3, 1) := by decide +kernel
theorem dX7_ofKey_61 : decode cX7_ofKey 61 = .ok (.iload_n 1, 1) := by decide +kernel
theorem dX7_ofKey_62 : decode cX7_ofKey 62 = .ok (.invokevirtual 78, 3) := by decide +kernel
theorem dX7_ofKey_65 : decode cX7_ofKey 65 = .ok (.ireturn, 1) := by decide +kernel
theorem dX7_ofKey_66 : decode cX7_ofKey 66 = .ok (.aload_n 3, 1) := by decide +kernel
theorem dX7_ofKey_67 : decode cX7_ofKey 67 = .ok (.iload_n 1, 1) := by decide +kernel
theorem dX7_ofKey_68 : decode cX7_ofKey 68 = .ok (.invokevirtual 81, 3) := by decide +kernel
theorem dX7_ofKey_71 : decode cX7_ofKey 71 = .ok (.invokestatic 84, 3) := by decide +kernel
theorem dX7_ofKey_74 : decode cX7_ofKey 74 = .ok (.ireturn, 1) := by decide +kernel
theorem dX7_ofKey_75 : decode cX7_ofKey 75 = .ok (.aload_n 3, 1) := by decide +kernel
theorem dX7_ofKey_76 : decode cX7_ofKey 76 = .ok (.iload_n 1, 1) := by decide +kernel
theorem dX7_ofKey_77 : decode cX7_ofKey 77 = .ok (.invokevirtual 88, 3) := by decide +kernel
theorem dX7_ofKey_80 : decode cX7_ofKey 80 = .ok (.ireturn, 1) := by decide +kernel
theorem dX7_ofKey_81 : decode cX7_ofKey 81 = .ok (.aload_n 3, 1) := by decide +kernel
theorem dX7_ofKey_82 : decode cX7_ofKey 82 = .ok (.iload_n 1, 1) := by decide +kernel
theorem dX7_ofKey_83 : decode cX7_ofKey 83 = .ok (.invokevirtual 91, 3) := by decide +kernel
theorem dX7_ofKey_86 : decode cX7_ofKey 86 = .ok (.ireturn, 1) := by decide +kernel
theorem dX7_ofKey_87 : decode cX7_ofKey 87 = .ok (.aload_n 3, 1) := by decide +kernel
theorem dX7_ofKey_88 : decode cX7_ofKey 88 = .ok (.iload_n 1, 1) := by decide +kernel
theorem dX7_ofKey_89 : decode cX7_ofKey 89 = .ok (.invokestatic 94, 3) := by decide +kernel
theorem dX7_ofKey_92 : decode cX7_ofKey 92 = .ok (.invokevirtual 97, 3) := by decide +kernel
theorem dX7_ofKey_95 : decode cX7_ofKey 95 = .ok (.ireturn, 1) := by decide +kernel
theorem dX7_ofKey_96 : decode cX7_ofKey 96 = .ok (.aload_n 3, 1) := by decide +kernel
theorem dX7_ofKey_97 : decode cX7_ofKey 97 = .ok (.iload_n 1, 1) := by decide +kernel
theorem dX7_ofKey_98 : decode cX7_ofKey 98 = .ok (.invokestatic 94, 3) := by decide +kernel
theorem dX7_ofKey_101 : decode cX7_ofKey 101 = .ok (.invokevirtual 100, 3) := by decide +kernel
theorem dX7_ofKey_104 : decode cX7_ofKey 104 = .ok (.ireturn, 1) := by decide +kernel
theorem dX7_ofKey_105 : decode cX7_ofKey 105 = .ok (.aload_n 3, 1) := by decide +kernel
theorem dX7_ofKey_106 : decode cX7_ofKey 106 = .ok (.iload_n 1, 1) := by decide +kernel
theorem dX7_ofKey_107 : decode cX7_ofKey 107 = .ok (.invokevirtual 103, 3) := by decide +kernel
theorem dX7_ofKey_110 : decode cX7_ofKey 110 = .ok (.invokestatic 106, 3) := by decide +kernel
theorem dX7_ofKey_113 : decode cX7_ofKey 113 = .ok (.ireturn, 1) := by decide +kernel
theorem dX7_ofKey_114 : decode cX7_ofKey 114 = .ok (.bipush (-2), 2) := by decide +kernel
theorem dX7_ofKey_116 : decode cX7_ofKey 116 = .ok (.ireturn, 1) := by decide +kernel
theorem dX7_ofBox_0 : decode cX7_ofBox 0 = .ok (.aload_n 0, 1) := by decide +kernel
theorem dX7_ofBox_1 : decode cX7_ofBox 1 = .ok (.getfield 10, 3) := by decide +kernel
theorem dX7_ofBox_4 : decode cX7_ofBox 4 = .ok (.getfield 68, 3) := by decide +kernel
theorem dX7_ofBox_7 : decode cX7_ofBox 7 = .ok (.astore_n 3, 1) := by decide +kernel
theorem dX7_ofBox_8 : decode cX7_ofBox 8 = .ok (.aload_n 3, 1) := by decide +kernel
theorem dX7_ofBox_9 : decode cX7_ofBox 9 = .ok (.iload_n 1, 1) := by decide +kernel
theorem dX7_ofBox_10 : decode cX7_ofBox 10 = .ok (.invokevirtual 111, 3) := by decide +kernel
theorem dX7_ofBox_13 : decode cX7_ofBox 13 = .ok (.ifCond .ne 5, 3) := by decide +kernel
theorem dX7_ofBox_16 : decode cX7_ofBox 16 = .ok (.iconst (-1), 1) := by decide +kernel
theorem dX7_ofBox_17 : decode cX7_ofBox 17 = .ok (.ireturn, 1) := by decide +kernel
theorem dX7_ofBox_18 : decode cX7_ofBox 18 = .ok (.iload_n 2, 1) := by decide +kernel
theorem dX7_ofBox_19 : decode cX7_ofBox 19 = .ok (.tableswitch 85 0 3 #[29, 35, 44, 64], 29) := by decide +kernel
theorem dX7_ofBox_48 : decode cX7_ofBox 48 = .ok (.aload_n 3, 1) := by decide +kernel
theorem dX7_ofBox_49 : decode cX7_ofBox 49 = .ok (.iload_n 1, 1) := by decide +kernel
theorem dX7_ofBox_50 : decode cX7_ofBox 50 = .ok (.invokevirtual 114, 3) := by decide +kernel
theorem dX7_ofBox_53 : decode cX7_ofBox 53 = .ok (.ireturn, 1) := by decide +kernel
theorem dX7_ofBox_54 : decode cX7_ofBox 54 = .ok (.aload_n 3, 1) := by decide +kernel
theorem dX7_ofBox_55 : decode cX7_ofBox 55 = .ok (.iload_n 1, 1) := by decide +kernel
theorem dX7_ofBox_56 : decode cX7_ofBox 56 = .ok (.invokevirtual 117, 3) := by decide +kernel
theorem dX7_ofBox_59 : decode cX7_ofBox 59 = .ok (.invokestatic 84, 3) := by decide +kernel
theorem dX7_ofBox_62 : decode cX7_ofBox 62 = .ok (.ireturn, 1) := by decide +kernel
theorem dX7_ofBox_63 : decode cX7_ofBox 63 = .ok (.aload_n 0, 1) := by decide +kernel
theorem dX7_ofBox_64 : decode cX7_ofBox 64 = .ok (.getfield 19, 3) := by decide +kernel
theorem dX7_ofBox_67 : decode cX7_ofBox 67 = .ok (.aload_n 0, 1) := by decide +kernel
theorem dX7_ofBox_68 : decode cX7_ofBox 68 = .ok (.getfield 10, 3) := by decide +kernel
theorem dX7_ofBox_71 : decode cX7_ofBox 71 = .ok (.iconst 0, 1) := by decide +kernel
theorem dX7_ofBox_72 : decode cX7_ofBox 72 = .ok (.invokevirtual 120, 3) := by decide +kernel
theorem dX7_ofBox_75 : decode cX7_ofBox 75 = .ok (.iload_n 1, 1) := by decide +kernel
theorem dX7_ofBox_76 : decode cX7_ofBox 76 = .ok (.invokestatic 124, 3) := by decide +kernel
theorem dX7_ofBox_79 : decode cX7_ofBox 79 = .ok (.invokestatic 84, 3) := by decide +kernel
theorem dX7_ofBox_82 : decode cX7_ofBox 82 = .ok (.ireturn, 1) := by decide +kernel
theorem dX7_ofBox_83 : decode cX7_ofBox 83 = .ok (.aload_n 0, 1) := by decide +kernel
theorem dX7_ofBox_84 : decode cX7_ofBox 84 = .ok (.getfield 19, 3) := by decide +kernel
theorem dX7_ofBox_87 : decode cX7_ofBox 87 = .ok (.aload_n 0, 1) := by decide +kernel
theorem dX7_ofBox_88 : decode cX7_ofBox 88 = .ok (.getfield 10, 3) := by decide +kernel
theorem dX7_ofBox_91 : decode cX7_ofBox 91 = .ok (.bipush 7, 2) := by decide +kernel
theorem dX7_ofBox_93 : decode cX7_ofBox 93 = .ok (.invokevirtual 120, 3) := by decide +kernel
theorem dX7_ofBox_96 : decode cX7_ofBox 96 = .ok (.iload_n 1, 1) := by decide +kernel
theorem dX7_ofBox_97 : decode cX7_ofBox 97 = .ok (.invokestatic 124, 3) := by decide +kernel
theorem dX7_ofBox_100 : decode cX7_ofBox 100 = .ok (.invokestatic 84, 3) := by decide +kernel
theorem dX7_ofBox_103 : decode cX7_ofBox 103 = .ok (.ireturn, 1) := by decide +kernel
theorem dX7_ofBox_104 : decode cX7_ofBox 104 = .ok (.bipush (-2), 2) := by decide +kernel
theorem dX7_ofBox_106 : decode cX7_ofBox 106 = .ok (.ireturn, 1) := by decide +kernel
theorem dX7_wrap_0 : decode cX7_wrap 0 = .ok (.aload_n 0, 1) := by decide +kernel
theorem dX7_wrap_1 : decode cX7_wrap 1 = .ok (.getfield 10, 3) := by decide +kernel
theorem dX7_wrap_4 : decode cX7_wrap 4 = .ok (.getfield 128, 3) := by decide +kernel
theorem dX7_wrap_7 : decode cX7_wrap 7 = .ok (.astore_n 3, 1) := by decide +kernel
theorem dX7_wrap_8 : decode cX7_wrap 8 = .ok (.aload_n 3, 1) := by decide +kernel
theorem dX7_wrap_9 : decode cX7_wrap 9 = .ok (.iload_n 1, 1) := by decide +kernel
theorem dX7_wrap_10 : decode cX7_wrap 10 = .ok (.invokevirtual 132, 3) := by decide +kernel
theorem dX7_wrap_13 : decode cX7_wrap 13 = .ok (.ifCond .ne 5, 3) := by decide +kernel
theorem dX7_wrap_16 : decode cX7_wrap 16 = .ok (.iconst (-1), 1) := by decide +kernel
theorem dX7_wrap_17 : decode cX7_wrap 17 = .ok (.ireturn, 1) := by decide +kernel
theorem dX7_wrap_18 : decode cX7_wrap 18 = .ok (.iload_n 2, 1) := by decide +kernel
theorem dX7_wrap_19 : decode cX7_wrap 19 = .ok (.tableswitch 78 0 5 #[37, 43, 49, 55, 61, 72], 37) := by decide +kernel
theorem dX7_wrap_56 : decode cX7_wrap 56 = .ok (.aload_n 3, 1) := by decide +kernel
theorem dX7_wrap_57 : decode cX7_wrap 57 = .ok (.iload_n 1, 1) := by decide +kernel
theorem dX7_wrap_58 : decode cX7_wrap 58 = .ok (.invokevirtual 137, 3) := by decide +kernel
theorem dX7_wrap_61 : decode cX7_wrap 61 = .ok (.ireturn, 1) := by decide +kernel
theorem dX7_wrap_62 : decode cX7_wrap 62 = .ok (.aload_n 3, 1) := by decide +kernel
theorem dX7_wrap_63 : decode cX7_wrap 63 = .ok (.iload_n 1, 1) := by decide +kernel
theorem dX7_wrap_64 : decode cX7_wrap 64 = .ok (.invokevirtual 140, 3) := by decide +kernel
theorem dX7_wrap_67 : decode cX7_wrap 67 = .ok (.ireturn, 1) := by decide +kernel
theorem dX7_wrap_68 : decode cX7_wrap 68 = .ok (.aload_n 3, 1) := by decide +kernel
theorem dX7_wrap_69 : decode cX7_wrap 69 = .ok (.iload_n 1, 1) := by decide +kernel
theorem dX7_wrap_70 : decode cX7_wrap 70 = .ok (.invokevirtual 143, 3) := by decide +kernel
theorem dX7_wrap_73 : decode cX7_wrap 73 = .ok (.ireturn, 1) := by decide +kernel
theorem dX7_wrap_74 : decode cX7_wrap 74 = .ok (.aload_n 3, 1) := by decide +kernel
theorem dX7_wrap_75 : decode cX7_wrap 75 = .ok (.iload_n 1, 1) := by decide +kernel
theorem dX7_wrap_76 : decode cX7_wrap 76 = .ok (.invokevirtual 146, 3) := by decide +kernel
theorem dX7_wrap_79 : decode cX7_wrap 79 = .ok (.ireturn, 1) := by decide +kernel
theorem dX7_wrap_80 : decode cX7_wrap 80 = .ok (.aload_n 3, 1) := by decide +kernel
theorem dX7_wrap_81 : decode cX7_wrap 81 = .ok (.iload_n 1, 1) := by decide +kernel
theorem dX7_wrap_82 : decode cX7_wrap 82 = .ok (.bipush 8, 2) := by decide +kernel
theorem dX7_wrap_84 : decode cX7_wrap 84 = .ok (.invokevirtual 149, 3) := by decide +kernel
theorem dX7_wrap_87 : decode cX7_wrap 87 = .ok (.invokestatic 84, 3) := by decide +kernel
theorem dX7_wrap_90 : decode cX7_wrap 90 = .ok (.ireturn, 1) := by decide +kernel
theorem dX7_wrap_91 : decode cX7_wrap 91 = .ok (.aload_n 3, 1) := by decide +kernel
theorem dX7_wrap_92 : decode cX7_wrap 92 = .ok (.iload_n 1, 1) := by decide +kernel
theorem dX7_wrap_93 : decode cX7_wrap 93 = .ok (.invokevirtual 152, 3) := by decide +kernel
theorem dX7_wrap_96 : decode cX7_wrap 96 = .ok (.ireturn, 1) := by decide +kernel
theorem dX7_wrap_97 : decode cX7_wrap 97 = .ok (.bipush (-2), 2) := by decide +kernel
theorem dX7_wrap_99 : decode cX7_wrap 99 = .ok (.ireturn, 1) := by decide +kernel
theorem dX7_count_0 : decode cX7_count 0 = .ok (.aload_n 0, 1) := by decide +kernel
theorem dX7_count_1 : decode cX7_count 1 = .ok (.getfield 10, 3) := by decide +kernel
theorem dX7_count_4 : decode cX7_count 4 = .ok (.getfield 68, 3) := by decide +kernel
theorem dX7_count_7 : decode cX7_count 7 = .ok (.astore_n 2, 1) := by decide +kernel
theorem dX7_count_8 : decode cX7_count 8 = .ok (.iload_n 1, 1) := by decide +kernel
theorem dX7_count_9 : decode cX7_count 9 = .ok (.tableswitch 165 0 11 #[63, 68, 76, 81, 89, 100, 113, 126, 131, 136, 149, 157], 63) := by decide +kernel
theorem dX7_count_72 : decode cX7_count 72 = .ok (.aload_n 2, 1) := by decide +kernel
theorem dX7_count_73 : decode cX7_count 73 = .ok (.getfield 155, 3) := by decide +kernel
theorem dX7_count_76 : decode cX7_count 76 = .ok (.ireturn, 1) := by decide +kernel
theorem dX7_count_77 : decode cX7_count 77 = .ok (.aload_n 2, 1) := by decide +kernel
theorem dX7_count_78 : decode cX7_count 78 = .ok (.getfield 159, 3) := by decide +kernel
theorem dX7_count_81 : decode cX7_count 81 = .ok (.invokestatic 106, 3) := by decide +kernel
theorem dX7_count_84 : decode cX7_count 84 = .ok (.ireturn, 1) := by decide +kernel
theorem dX7_count_85 : decode cX7_count 85 = .ok (.aload_n 2, 1) := by decide +kernel
theorem dX7_count_86 : decode cX7_count 86 = .ok (.getfield 162, 3) := by decide +kernel
theorem dX7_count_89 : decode cX7_count 89 = .ok (.ireturn, 1) := by decide +kernel
theorem dX7_count_90 : decode cX7_count 90 = .ok (.aload_n 2, 1) := by decide +kernel
theorem dX7_count_91 : decode cX7_count 91 = .ok (.getfield 165, 3) := by decide +kernel
theorem dX7_count_94 : decode cX7_count 94 = .ok (.invokestatic 106, 3) := by decide +kernel
theorem dX7_count_97 : decode cX7_count 97 = .ok (.ireturn, 1) := by decide +kernel
theorem dX7_count_98 : decode cX7_count 98 = .ok (.aload_n 0, 1) := by decide +kernel
theorem dX7_count_99 : decode cX7_count 99 = .ok (.getfield 10, 3) := by decide +kernel
theorem dX7_count_102 : decode cX7_count 102 = .ok (.getfield 128, 3) := by decide +kernel
theorem dX7_count_105 : decode cX7_count 105 = .ok (.getfield 168, 3) := by decide +kernel
theorem dX7_count_108 : decode cX7_count 108 = .ok (.ireturn, 1) := by decide +kernel
theorem dX7_count_109 : decode cX7_count 109 = .ok (.aload_n 0, 1) := by decide +kernel
theorem dX7_count_110 : decode cX7_count 110 = .ok (.getfield 10, 3) := by decide +kernel
theorem dX7_count_113 : decode cX7_count 113 = .ok (.getfield 128, 3) := by decide +kernel
theorem dX7_count_116 : decode cX7_count 116 = .ok (.bipush 8, 2) := by decide +kernel
theorem dX7_count_118 : decode cX7_count 118 = .ok (.invokevirtual 171, 3) := by decide +kernel
theorem dX7_count_121 : decode cX7_count 121 = .ok (.ireturn, 1) := by decide +kernel
theorem dX7_count_122 : decode cX7_count 122 = .ok (.aload_n 0, 1) := by decide +kernel
theorem dX7_count_123 : decode cX7_count 123 = .ok (.getfield 10, 3) := by decide +kernel
theorem dX7_count_126 : decode cX7_count 126 = .ok (.getfield 128, 3) := by decide +kernel
theorem dX7_count_129 : decode cX7_count 129 = .ok (.bipush 7, 2) := by decide +kernel
theorem dX7_count_131 : decode cX7_count 131 = .ok (.invokevirtual 171, 3) := by decide +kernel
theorem dX7_count_134 : decode cX7_count 134 = .ok (.ireturn, 1) := by decide +kernel
theorem dX7_count_135 : decode cX7_count 135 = .ok (.aload_n 2, 1) := by decide +kernel
theorem dX7_count_136 : decode cX7_count 136 = .ok (.getfield 174, 3) := by decide +kernel
theorem dX7_count_139 : decode cX7_count 139 = .ok (.ireturn, 1) := by decide +kernel
theorem dX7_count_140 : decode cX7_count 140 = .ok (.aload_n 2, 1) := by decide +kernel
theorem dX7_count_141 : decode cX7_count 141 = .ok (.invokevirtual 177, 3) := by decide +kernel
theorem dX7_count_144 : decode cX7_count 144 = .ok (.ireturn, 1) := by decide +kernel
theorem dX7_count_145 : decode cX7_count 145 = .ok (.aload_n 0, 1) := by decide +kernel
theorem dX7_count_146 : decode cX7_count 146 = .ok (.getfield 19, 3) := by decide +kernel
theorem dX7_count_149 : decode cX7_count 149 = .ok (.aload_n 0, 1) := by decide +kernel
theorem dX7_count_150 : decode cX7_count 150 = .ok (.getfield 10, 3) := by decide +kernel
theorem dX7_count_153 : decode cX7_count 153 = .ok (.iconst 0, 1) := by decide +kernel
theorem dX7_count_154 : decode cX7_count 154 = .ok (.invokevirtual 120, 3) := by decide +kernel
theorem dX7_count_157 : decode cX7_count 157 = .ok (.ireturn, 1) := by decide +kernel
theorem dX7_count_158 : decode cX7_count 158 = .ok (.aload_n 0, 1) := by decide +kernel
theorem dX7_count_159 : decode cX7_count 159 = .ok (.getfield 26, 3) := by decide +kernel
theorem dX7_count_162 : decode cX7_count 162 = .ok (.getfield 181, 3) := by decide +kernel
theorem dX7_count_165 : decode cX7_count 165 = .ok (.ireturn, 1) := by decide +kernel
theorem dX7_count_166 : decode cX7_count 166 = .ok (.aload_n 0, 1) := by decide +kernel
theorem dX7_count_167 : decode cX7_count 167 = .ok (.getfield 33, 3) := by decide +kernel
theorem dX7_count_170 : decode cX7_count 170 = .ok (.getfield 184, 3) := by decide +kernel
theorem dX7_count_173 : decode cX7_count 173 = .ok (.ireturn, 1) := by decide +kernel
theorem dX7_count_174 : decode cX7_count 174 = .ok (.bipush (-2), 2) := by decide +kernel
theorem dX7_count_176 : decode cX7_count 176 = .ok (.ireturn, 1) := by decide +kernel
theorem dX7_canOpen_0 : decode cX7_canOpen 0 = .ok (.aload_n 0, 1) := by decide +kernel
theorem dX7_canOpen_1 : decode cX7_canOpen 1 = .ok (.getfield 10, 3) := by decide +kernel
theorem dX7_canOpen_4 : decode cX7_canOpen 4 = .ok (.getfield 68, 3) := by decide +kernel
theorem dX7_canOpen_7 : decode cX7_canOpen 7 = .ok (.iload_n 1, 1) := by decide +kernel
theorem dX7_canOpen_8 : decode cX7_canOpen 8 = .ok (.invokevirtual 111, 3) := by decide +kernel
theorem dX7_canOpen_11 : decode cX7_canOpen 11 = .ok (.ifCond .ne 5, 3) := by decide +kernel
theorem dX7_canOpen_14 : decode cX7_canOpen 14 = .ok (.iconst (-1), 1) := by decide +kernel
theorem dX7_canOpen_15 : decode cX7_canOpen 15 = .ok (.ireturn, 1) := by decide +kernel
theorem dX7_canOpen_16 : decode cX7_canOpen 16 = .ok (.iload_n 2, 1) := by decide +kernel
theorem dX7_canOpen_17 : decode cX7_canOpen 17 = .ok (.invokestatic 185, 3) := by decide +kernel
theorem dX7_canOpen_20 : decode cX7_canOpen 20 = .ok (.ifCond .ne 6, 3) := by decide +kernel
theorem dX7_canOpen_23 : decode cX7_canOpen 23 = .ok (.bipush (-2), 2) := by decide +kernel
theorem dX7_canOpen_25 : decode cX7_canOpen 25 = .ok (.ireturn, 1) := by decide +kernel
theorem dX7_canOpen_26 : decode cX7_canOpen 26 = .ok (.aload_n 0, 1) := by decide +kernel
theorem dX7_canOpen_27 : decode cX7_canOpen 27 = .ok (.getfield 19, 3) := by decide +kernel
theorem dX7_canOpen_30 : decode cX7_canOpen 30 = .ok (.aload_n 0, 1) := by decide +kernel
theorem dX7_canOpen_31 : decode cX7_canOpen 31 = .ok (.getfield 10, 3) := by decide +kernel
theorem dX7_canOpen_34 : decode cX7_canOpen 34 = .ok (.iload_n 2, 1) := by decide +kernel
theorem dX7_canOpen_35 : decode cX7_canOpen 35 = .ok (.invokevirtual 120, 3) := by decide +kernel
theorem dX7_canOpen_38 : decode cX7_canOpen 38 = .ok (.iload_n 1, 1) := by decide +kernel
theorem dX7_canOpen_39 : decode cX7_canOpen 39 = .ok (.invokestatic 124, 3) := by decide +kernel
theorem dX7_canOpen_42 : decode cX7_canOpen 42 = .ok (.invokestatic 84, 3) := by decide +kernel
theorem dX7_canOpen_45 : decode cX7_canOpen 45 = .ok (.ireturn, 1) := by decide +kernel
theorem dX7_canHave_0 : decode cX7_canHave 0 = .ok (.aload_n 0, 1) := by decide +kernel
theorem dX7_canHave_1 : decode cX7_canHave 1 = .ok (.getfield 10, 3) := by decide +kernel
theorem dX7_canHave_4 : decode cX7_canHave 4 = .ok (.getfield 68, 3) := by decide +kernel
theorem dX7_canHave_7 : decode cX7_canHave 7 = .ok (.iload_n 1, 1) := by decide +kernel
theorem dX7_canHave_8 : decode cX7_canHave 8 = .ok (.invokevirtual 72, 3) := by decide +kernel
theorem dX7_canHave_11 : decode cX7_canHave 11 = .ok (.ifCond .ne 5, 3) := by decide +kernel
theorem dX7_canHave_14 : decode cX7_canHave 14 = .ok (.iconst (-1), 1) := by decide +kernel
theorem dX7_canHave_15 : decode cX7_canHave 15 = .ok (.ireturn, 1) := by decide +kernel
theorem dX7_canHave_16 : decode cX7_canHave 16 = .ok (.iload_n 2, 1) := by decide +kernel
theorem dX7_canHave_17 : decode cX7_canHave 17 = .ok (.ifCond .lt 10, 3) := by decide +kernel
theorem dX7_canHave_20 : decode cX7_canHave 20 = .ok (.iload_n 3, 1) := by decide +kernel
theorem dX7_canHave_21 : decode cX7_canHave 21 = .ok (.invokestatic 185, 3) := by decide +kernel
theorem dX7_canHave_24 : decode cX7_canHave 24 = .ok (.ifCond .ne 6, 3) := by decide +kernel
theorem dX7_canHave_27 : decode cX7_canHave 27 = .ok (.bipush (-2), 2) := by decide +kernel
theorem dX7_canHave_29 : decode cX7_canHave 29 = .ok (.ireturn, 1) := by decide +kernel
theorem dX7_canHave_30 : decode cX7_canHave 30 = .ok (.aload_n 0, 1) := by decide +kernel
theorem dX7_canHave_31 : decode cX7_canHave 31 = .ok (.getfield 19, 3) := by decide +kernel
theorem dX7_canHave_34 : decode cX7_canHave 34 = .ok (.aload_n 0, 1) := by decide +kernel
theorem dX7_canHave_35 : decode cX7_canHave 35 = .ok (.getfield 10, 3) := by decide +kernel
theorem dX7_canHave_38 : decode cX7_canHave 38 = .ok (.iload_n 1, 1) := by decide +kernel
theorem dX7_canHave_39 : decode cX7_canHave 39 = .ok (.iload_n 2, 1) := by decide +kernel
theorem dX7_canHave_40 : decode cX7_canHave 40 = .ok (.iload_n 3, 1) := by decide +kernel
theorem dX7_canHave_41 : decode cX7_canHave 41 = .ok (.invokevirtual 188, 3) := by decide +kernel
theorem dX7_canHave_44 : decode cX7_canHave 44 = .ok (.invokestatic 84, 3) := by decide +kernel
theorem dX7_canHave_47 : decode cX7_canHave 47 = .ok (.ireturn, 1) := by decide +kernel
theorem dX7_way_0 : decode cX7_way 0 = .ok (.aload_n 0, 1) := by decide +kernel
theorem dX7_way_1 : decode cX7_way 1 = .ok (.getfield 10, 3) := by decide +kernel
theorem dX7_way_4 : decode cX7_way 4 = .ok (.getfield 68, 3) := by decide +kernel
theorem dX7_way_7 : decode cX7_way 7 = .ok (.iload_n 1, 1) := by decide +kernel
theorem dX7_way_8 : decode cX7_way 8 = .ok (.invokevirtual 117, 3) := by decide +kernel
theorem dX7_way_11 : decode cX7_way 11 = .ok (.ifCond .ne 5, 3) := by decide +kernel
theorem dX7_way_14 : decode cX7_way 14 = .ok (.iconst (-1), 1) := by decide +kernel
theorem dX7_way_15 : decode cX7_way 15 = .ok (.ireturn, 1) := by decide +kernel
theorem dX7_way_16 : decode cX7_way 16 = .ok (.iload_n 2, 1) := by decide +kernel
theorem dX7_way_17 : decode cX7_way 17 = .ok (.ifCond .ge 6, 3) := by decide +kernel
theorem dX7_way_20 : decode cX7_way 20 = .ok (.bipush (-2), 2) := by decide +kernel
theorem dX7_way_22 : decode cX7_way 22 = .ok (.ireturn, 1) := by decide +kernel
theorem dX7_way_23 : decode cX7_way 23 = .ok (.aload_n 0, 1) := by decide +kernel
theorem dX7_way_24 : decode cX7_way 24 = .ok (.getfield 10, 3) := by decide +kernel
theorem dX7_way_27 : decode cX7_way 27 = .ok (.iload_n 1, 1) := by decide +kernel
theorem dX7_way_28 : decode cX7_way 28 = .ok (.iload_n 2, 1) := by decide +kernel
theorem dX7_way_29 : decode cX7_way 29 = .ok (.invokevirtual 192, 3) := by decide +kernel
theorem dX7_way_32 : decode cX7_way 32 = .ok (.ireturn, 1) := by decide +kernel
theorem dX7_leaks_0 : decode cX7_leaks 0 = .ok (.aload_n 0, 1) := by decide +kernel
theorem dX7_leaks_1 : decode cX7_leaks 1 = .ok (.getfield 10, 3) := by decide +kernel
theorem dX7_leaks_4 : decode cX7_leaks 4 = .ok (.getfield 68, 3) := by decide +kernel
theorem dX7_leaks_7 : decode cX7_leaks 7 = .ok (.iload_n 1, 1) := by decide +kernel
theorem dX7_leaks_8 : decode cX7_leaks 8 = .ok (.invokevirtual 72, 3) := by decide +kernel
theorem dX7_leaks_11 : decode cX7_leaks 11 = .ok (.ifCond .eq 17, 3) := by decide +kernel
theorem dX7_leaks_14 : decode cX7_leaks 14 = .ok (.aload_n 0, 1) := by decide +kernel
theorem dX7_leaks_15 : decode cX7_leaks 15 = .ok (.getfield 10, 3) := by decide +kernel
theorem dX7_leaks_18 : decode cX7_leaks 18 = .ok (.getfield 68, 3) := by decide +kernel
theorem dX7_leaks_21 : decode cX7_leaks 21 = .ok (.iload_n 1, 1) := by decide +kernel
theorem dX7_leaks_22 : decode cX7_leaks 22 = .ok (.invokevirtual 195, 3) := by decide +kernel
theorem dX7_leaks_25 : decode cX7_leaks 25 = .ok (.ifCond .ne 5, 3) := by decide +kernel
theorem dX7_leaks_28 : decode cX7_leaks 28 = .ok (.iconst (-1), 1) := by decide +kernel
theorem dX7_leaks_29 : decode cX7_leaks 29 = .ok (.ireturn, 1) := by decide +kernel
theorem dX7_leaks_30 : decode cX7_leaks 30 = .ok (.iload_n 2, 1) := by decide +kernel
theorem dX7_leaks_31 : decode cX7_leaks 31 = .ok (.ifCond .lt 10, 3) := by decide +kernel
theorem dX7_leaks_34 : decode cX7_leaks 34 = .ok (.iload_n 3, 1) := by decide +kernel
theorem dX7_leaks_35 : decode cX7_leaks 35 = .ok (.invokestatic 185, 3) := by decide +kernel
theorem dX7_leaks_38 : decode cX7_leaks 38 = .ok (.ifCond .ne 6, 3) := by decide +kernel
theorem dX7_leaks_41 : decode cX7_leaks 41 = .ok (.bipush (-2), 2) := by decide +kernel
theorem dX7_leaks_43 : decode cX7_leaks 43 = .ok (.ireturn, 1) := by decide +kernel
theorem dX7_leaks_44 : decode cX7_leaks 44 = .ok (.aload_n 0, 1) := by decide +kernel
theorem dX7_leaks_45 : decode cX7_leaks 45 = .ok (.getfield 19, 3) := by decide +kernel
theorem dX7_leaks_48 : decode cX7_leaks 48 = .ok (.aload_n 0, 1) := by decide +kernel
theorem dX7_leaks_49 : decode cX7_leaks 49 = .ok (.getfield 10, 3) := by decide +kernel
theorem dX7_leaks_52 : decode cX7_leaks 52 = .ok (.iload_n 1, 1) := by decide +kernel
theorem dX7_leaks_53 : decode cX7_leaks 53 = .ok (.iload_n 2, 1) := by decide +kernel
theorem dX7_leaks_54 : decode cX7_leaks 54 = .ok (.iload_n 3, 1) := by decide +kernel
theorem dX7_leaks_55 : decode cX7_leaks 55 = .ok (.invokevirtual 198, 3) := by decide +kernel
theorem dX7_leaks_58 : decode cX7_leaks 58 = .ok (.ireturn, 1) := by decide +kernel
theorem dX7_lostBy_0 : decode cX7_lostBy 0 = .ok (.aload_n 0, 1) := by decide +kernel
theorem dX7_lostBy_1 : decode cX7_lostBy 1 = .ok (.getfield 10, 3) := by decide +kernel
theorem dX7_lostBy_4 : decode cX7_lostBy 4 = .ok (.getfield 68, 3) := by decide +kernel
theorem dX7_lostBy_7 : decode cX7_lostBy 7 = .ok (.astore_n 2, 1) := by decide +kernel
theorem dX7_lostBy_8 : decode cX7_lostBy 8 = .ok (.aload_n 2, 1) := by decide +kernel
theorem dX7_lostBy_9 : decode cX7_lostBy 9 = .ok (.iload_n 1, 1) := by decide +kernel
theorem dX7_lostBy_10 : decode cX7_lostBy 10 = .ok (.invokevirtual 81, 3) := by decide +kernel
theorem dX7_lostBy_13 : decode cX7_lostBy 13 = .ok (.ifCond .eq 15, 3) := by decide +kernel
theorem dX7_lostBy_16 : decode cX7_lostBy 16 = .ok (.aload_n 2, 1) := by decide +kernel
theorem dX7_lostBy_17 : decode cX7_lostBy 17 = .ok (.aload_n 2, 1) := by decide +kernel
theorem dX7_lostBy_18 : decode cX7_lostBy 18 = .ok (.iload_n 1, 1) := by decide +kernel
theorem dX7_lostBy_19 : decode cX7_lostBy 19 = .ok (.invokevirtual 202, 3) := by decide +kernel
theorem dX7_lostBy_22 : decode cX7_lostBy 22 = .ok (.invokevirtual 100, 3) := by decide +kernel
theorem dX7_lostBy_25 : decode cX7_lostBy 25 = .ok (.goto 4, 3) := by decide +kernel
theorem dX7_lostBy_28 : decode cX7_lostBy 28 = .ok (.iconst (-1), 1) := by decide +kernel
theorem dX7_lostBy_29 : decode cX7_lostBy 29 = .ok (.ireturn, 1) := by decide +kernel
theorem dX7_throwingMakes_0 : decode cX7_throwingMakes 0 = .ok (.iload_n 1, 1) := by decide +kernel
theorem dX7_throwingMakes_1 : decode cX7_throwingMakes 1 = .ok (.ifCond .eq 8, 3) := by decide +kernel
theorem dX7_throwingMakes_4 : decode cX7_throwingMakes 4 = .ok (.iload_n 1, 1) := by decide +kernel
theorem dX7_throwingMakes_5 : decode cX7_throwingMakes 5 = .ok (.iconst 1, 1) := by decide +kernel
theorem dX7_throwingMakes_6 : decode cX7_throwingMakes 6 = .ok (.if_icmp .ne 15, 3) := by decide +kernel
theorem dX7_throwingMakes_9 : decode cX7_throwingMakes 9 = .ok (.aload_n 0, 1) := by decide +kernel
theorem dX7_throwingMakes_10 : decode cX7_throwingMakes 10 = .ok (.getfield 10, 3) := by decide +kernel
theorem dX7_throwingMakes_13 : decode cX7_throwingMakes 13 = .ok (.iload_n 1, 1) := by decide +kernel
theorem dX7_throwingMakes_14 : decode cX7_throwingMakes 14 = .ok (.iload_n 2, 1) := by decide +kernel
theorem dX7_throwingMakes_15 : decode cX7_throwingMakes 15 = .ok (.invokevirtual 205, 3) := by decide +kernel
theorem dX7_throwingMakes_18 : decode cX7_throwingMakes 18 = .ok (.goto 5, 3) := by decide +kernel
theorem dX7_throwingMakes_21 : decode cX7_throwingMakes 21 = .ok (.bipush (-2), 2) := by decide +kernel
theorem dX7_throwingMakes_23 : decode cX7_throwingMakes 23 = .ok (.ireturn, 1) := by decide +kernel
theorem dX7_mostWorn_0 : decode cX7_mostWorn 0 = .ok (.iload_n 1, 1) := by decide +kernel
theorem dX7_mostWorn_1 : decode cX7_mostWorn 1 = .ok (.ifCond .eq 11, 3) := by decide +kernel
theorem dX7_mostWorn_4 : decode cX7_mostWorn 4 = .ok (.iload_n 1, 1) := by decide +kernel
theorem dX7_mostWorn_5 : decode cX7_mostWorn 5 = .ok (.iconst 1, 1) := by decide +kernel
theorem dX7_mostWorn_6 : decode cX7_mostWorn 6 = .ok (.if_icmp .eq 6, 3) := by decide +kernel
theorem dX7_mostWorn_9 : decode cX7_mostWorn 9 = .ok (.bipush (-2), 2) := by decide +kernel
theorem dX7_mostWorn_11 : decode cX7_mostWorn 11 = .ok (.ireturn, 1) := by decide +kernel
theorem dX7_mostWorn_12 : decode cX7_mostWorn 12 = .ok (.aload_n 0, 1) := by decide +kernel
theorem dX7_mostWorn_13 : decode cX7_mostWorn 13 = .ok (.getfield 10, 3) := by decide +kernel
theorem dX7_mostWorn_16 : decode cX7_mostWorn 16 = .ok (.getfield 68, 3) := by decide +kernel
theorem dX7_mostWorn_19 : decode cX7_mostWorn 19 = .ok (.invokevirtual 208, 3) := by decide +kernel
theorem dX7_mostWorn_22 : decode cX7_mostWorn 22 = .ok (.istore_n 2, 1) := by decide +kernel
theorem dX7_mostWorn_23 : decode cX7_mostWorn 23 = .ok (.iload_n 2, 1) := by decide +kernel
theorem dX7_mostWorn_24 : decode cX7_mostWorn 24 = .ok (.bipush (-6), 2) := by decide +kernel
theorem dX7_mostWorn_26 : decode cX7_mostWorn 26 = .ok (.if_icmp .eq 7, 3) := by decide +kernel
theorem dX7_mostWorn_29 : decode cX7_mostWorn 29 = .ok (.iload_n 1, 1) := by decide +kernel
theorem dX7_mostWorn_30 : decode cX7_mostWorn 30 = .ok (.ifCond .ne 7, 3) := by decide +kernel
theorem dX7_mostWorn_33 : decode cX7_mostWorn 33 = .ok (.iload_n 2, 1) := by decide +kernel
theorem dX7_mostWorn_34 : decode cX7_mostWorn 34 = .ok (.goto 14, 3) := by decide +kernel
theorem dX7_mostWorn_37 : decode cX7_mostWorn 37 = .ok (.aload_n 0, 1) := by decide +kernel
theorem dX7_mostWorn_38 : decode cX7_mostWorn 38 = .ok (.getfield 10, 3) := by decide +kernel
theorem dX7_mostWorn_41 : decode cX7_mostWorn 41 = .ok (.getfield 68, 3) := by decide +kernel
theorem dX7_mostWorn_44 : decode cX7_mostWorn 44 = .ok (.iload_n 2, 1) := by decide +kernel
theorem dX7_mostWorn_45 : decode cX7_mostWorn 45 = .ok (.invokevirtual 211, 3) := by decide +kernel
theorem dX7_mostWorn_48 : decode cX7_mostWorn 48 = .ok (.ireturn, 1) := by decide +kernel
theorem dX7_put_0 : decode cX7_put 0 = .ok (.aload_n 0, 1) := by decide +kernel
theorem dX7_put_1 : decode cX7_put 1 = .ok (.getfield 26, 3) := by decide +kernel
theorem dX7_put_4 : decode cX7_put 4 = .ok (.lload_n 1, 1) := by decide +kernel
theorem dX7_put_5 : decode cX7_put 5 = .ok (.invokevirtual 214, 3) := by decide +kernel
theorem dX7_put_8 : decode cX7_put 8 = .ok (.ireturn, 1) := by decide +kernel
theorem dX7_wipe_0 : decode cX7_wipe 0 = .ok (.aload_n 0, 1) := by decide +kernel
theorem dX7_wipe_1 : decode cX7_wipe 1 = .ok (.getfield 26, 3) := by decide +kernel
theorem dX7_wipe_4 : decode cX7_wipe 4 = .ok (.invokevirtual 218, 3) := by decide +kernel
theorem dX7_wipe_7 : decode cX7_wipe 7 = .ok (.ireturn, 1) := by decide +kernel
theorem dX7_fault_0 : decode cX7_fault 0 = .ok (.aload_n 0, 1) := by decide +kernel
theorem dX7_fault_1 : decode cX7_fault 1 = .ok (.getfield 26, 3) := by decide +kernel
theorem dX7_fault_4 : decode cX7_fault 4 = .ok (.invokevirtual 221, 3) := by decide +kernel
theorem dX7_fault_7 : decode cX7_fault 7 = .ok (.ireturn, 1) := by decide +kernel
theorem dX7_carryOut_0 : decode cX7_carryOut 0 = .ok (.aload_n 0, 1) := by decide +kernel
theorem dX7_carryOut_1 : decode cX7_carryOut 1 = .ok (.getfield 26, 3) := by decide +kernel
theorem dX7_carryOut_4 : decode cX7_carryOut 4 = .ok (.invokevirtual 221, 3) := by decide +kernel
theorem dX7_carryOut_7 : decode cX7_carryOut 7 = .ok (.bipush (-6), 2) := by decide +kernel
theorem dX7_carryOut_9 : decode cX7_carryOut 9 = .ok (.if_icmp .eq 6, 3) := by decide +kernel
theorem dX7_carryOut_12 : decode cX7_carryOut 12 = .ok (.bipush (-3), 2) := by decide +kernel
theorem dX7_carryOut_14 : decode cX7_carryOut 14 = .ok (.ireturn, 1) := by decide +kernel
theorem dX7_carryOut_15 : decode cX7_carryOut 15 = .ok (.aload_n 0, 1) := by decide +kernel
theorem dX7_carryOut_16 : decode cX7_carryOut 16 = .ok (.getfield 33, 3) := by decide +kernel
theorem dX7_carryOut_19 : decode cX7_carryOut 19 = .ok (.aload_n 0, 1) := by decide +kernel
theorem dX7_carryOut_20 : decode cX7_carryOut 20 = .ok (.getfield 10, 3) := by decide +kernel
theorem dX7_carryOut_23 : decode cX7_carryOut 23 = .ok (.invokevirtual 41, 3) := by decide +kernel
theorem dX7_carryOut_26 : decode cX7_carryOut 26 = .ok (.aload_n 0, 1) := by decide +kernel
theorem dX7_carryOut_27 : decode cX7_carryOut 27 = .ok (.getfield 26, 3) := by decide +kernel
theorem dX7_carryOut_30 : decode cX7_carryOut 30 = .ok (.invokevirtual 224, 3) := by decide +kernel
theorem dX7_carryOut_33 : decode cX7_carryOut 33 = .ok (.iconst 0, 1) := by decide +kernel
theorem dX7_carryOut_34 : decode cX7_carryOut 34 = .ok (.istore_n 1, 1) := by decide +kernel
theorem dX7_carryOut_35 : decode cX7_carryOut 35 = .ok (.iload_n 1, 1) := by decide +kernel
theorem dX7_carryOut_36 : decode cX7_carryOut 36 = .ok (.bipush 60, 2) := by decide +kernel
theorem dX7_carryOut_38 : decode cX7_carryOut 38 = .ok (.if_icmp .ge 36, 3) := by decide +kernel
theorem dX7_carryOut_41 : decode cX7_carryOut 41 = .ok (.aload_n 0, 1) := by decide +kernel
theorem dX7_carryOut_42 : decode cX7_carryOut 42 = .ok (.getfield 26, 3) := by decide +kernel
theorem dX7_carryOut_45 : decode cX7_carryOut 45 = .ok (.invokevirtual 227, 3) := by decide +kernel
theorem dX7_carryOut_48 : decode cX7_carryOut 48 = .ok (.ifCond .eq 26, 3) := by decide +kernel
theorem dX7_carryOut_51 : decode cX7_carryOut 51 = .ok (.aload_n 0, 1) := by decide +kernel
theorem dX7_carryOut_52 : decode cX7_carryOut 52 = .ok (.getfield 26, 3) := by decide +kernel
theorem dX7_carryOut_55 : decode cX7_carryOut 55 = .ok (.invokevirtual 231, 3) := by decide +kernel
theorem dX7_carryOut_58 : decode cX7_carryOut 58 = .ok (.ifCond .eq 16, 3) := by decide +kernel
theorem dX7_carryOut_61 : decode cX7_carryOut 61 = .ok (.aload_n 0, 1) := by decide +kernel
theorem dX7_carryOut_62 : decode cX7_carryOut 62 = .ok (.invokevirtual 234, 3) := by decide +kernel
theorem dX7_carryOut_65 : decode cX7_carryOut 65 = .ok (.ifCond .lt 9, 3) := by decide +kernel
theorem dX7_carryOut_68 : decode cX7_carryOut 68 = .ok (.iinc 1 1, 3) := by decide +kernel
theorem dX7_carryOut_71 : decode cX7_carryOut 71 = .ok (.goto (-36), 3) := by decide +kernel
theorem dX7_carryOut_74 : decode cX7_carryOut 74 = .ok (.aload_n 0, 1) := by decide +kernel
theorem dX7_carryOut_75 : decode cX7_carryOut 75 = .ok (.getfield 26, 3) := by decide +kernel
theorem dX7_carryOut_78 : decode cX7_carryOut 78 = .ok (.invokevirtual 218, 3) := by decide +kernel
theorem dX7_carryOut_81 : decode cX7_carryOut 81 = .ok (.pop, 1) := by decide +kernel
theorem dX7_carryOut_82 : decode cX7_carryOut 82 = .ok (.aload_n 0, 1) := by decide +kernel
theorem dX7_carryOut_83 : decode cX7_carryOut 83 = .ok (.getfield 33, 3) := by decide +kernel
theorem dX7_carryOut_86 : decode cX7_carryOut 86 = .ok (.iload_n 1, 1) := by decide +kernel
theorem dX7_carryOut_87 : decode cX7_carryOut 87 = .ok (.invokevirtual 49, 3) := by decide +kernel
theorem dX7_carryOut_90 : decode cX7_carryOut 90 = .ok (.ireturn, 1) := by decide +kernel
theorem dX7_carryOutOrder_0 : decode cX7_carryOutOrder 0 = .ok (.aload_n 0, 1) := by decide +kernel
theorem dX7_carryOutOrder_1 : decode cX7_carryOutOrder 1 = .ok (.getfield 26, 3) := by decide +kernel
theorem dX7_carryOutOrder_4 : decode cX7_carryOutOrder 4 = .ok (.getfield 237, 3) := by decide +kernel
theorem dX7_carryOutOrder_7 : decode cX7_carryOutOrder 7 = .ok (.lookupswitch 126 #[(98, 64), (107, 49), (114, 79), (120, 94), (121, 110)], 49) := by decide +kernel
theorem dX7_carryOutOrder_56 : decode cX7_carryOutOrder 56 = .ok (.aload_n 0, 1) := by decide +kernel
theorem dX7_carryOutOrder_57 : decode cX7_carryOutOrder 57 = .ok (.getfield 10, 3) := by decide +kernel
theorem dX7_carryOutOrder_60 : decode cX7_carryOutOrder 60 = .ok (.aload_n 0, 1) := by decide +kernel
theorem dX7_carryOutOrder_61 : decode cX7_carryOutOrder 61 = .ok (.getfield 26, 3) := by decide +kernel
theorem dX7_carryOutOrder_64 : decode cX7_carryOutOrder 64 = .ok (.getfield 240, 3) := by decide +kernel
theorem dX7_carryOutOrder_67 : decode cX7_carryOutOrder 67 = .ok (.invokevirtual 52, 3) := by decide +kernel
theorem dX7_carryOutOrder_70 : decode cX7_carryOutOrder 70 = .ok (.ireturn, 1) := by decide +kernel
theorem dX7_carryOutOrder_71 : decode cX7_carryOutOrder 71 = .ok (.aload_n 0, 1) := by decide +kernel
theorem dX7_carryOutOrder_72 : decode cX7_carryOutOrder 72 = .ok (.getfield 10, 3) := by decide +kernel
theorem dX7_carryOutOrder_75 : decode cX7_carryOutOrder 75 = .ok (.aload_n 0, 1) := by decide +kernel
theorem dX7_carryOutOrder_76 : decode cX7_carryOutOrder 76 = .ok (.getfield 26, 3) := by decide +kernel
theorem dX7_carryOutOrder_79 : decode cX7_carryOutOrder 79 = .ok (.getfield 240, 3) := by decide +kernel
theorem dX7_carryOutOrder_82 : decode cX7_carryOutOrder 82 = .ok (.invokevirtual 55, 3) := by decide +kernel
theorem dX7_carryOutOrder_85 : decode cX7_carryOutOrder 85 = .ok (.ireturn, 1) := by decide +kernel
theorem dX7_carryOutOrder_86 : decode cX7_carryOutOrder 86 = .ok (.aload_n 0, 1) := by decide +kernel
theorem dX7_carryOutOrder_87 : decode cX7_carryOutOrder 87 = .ok (.getfield 10, 3) := by decide +kernel
theorem dX7_carryOutOrder_90 : decode cX7_carryOutOrder 90 = .ok (.aload_n 0, 1) := by decide +kernel
theorem dX7_carryOutOrder_91 : decode cX7_carryOutOrder 91 = .ok (.getfield 26, 3) := by decide +kernel
theorem dX7_carryOutOrder_94 : decode cX7_carryOutOrder 94 = .ok (.getfield 240, 3) := by decide +kernel
theorem dX7_carryOutOrder_97 : decode cX7_carryOutOrder 97 = .ok (.invokevirtual 62, 3) := by decide +kernel
theorem dX7_carryOutOrder_100 : decode cX7_carryOutOrder 100 = .ok (.ireturn, 1) := by decide +kernel
theorem dX7_carryOutOrder_101 : decode cX7_carryOutOrder 101 = .ok (.aload_n 0, 1) := by decide +kernel
theorem dX7_carryOutOrder_102 : decode cX7_carryOutOrder 102 = .ok (.getfield 10, 3) := by decide +kernel
theorem dX7_carryOutOrder_105 : decode cX7_carryOutOrder 105 = .ok (.iconst 0, 1) := by decide +kernel
theorem dX7_carryOutOrder_106 : decode cX7_carryOutOrder 106 = .ok (.aload_n 0, 1) := by decide +kernel
theorem dX7_carryOutOrder_107 : decode cX7_carryOutOrder 107 = .ok (.getfield 26, 3) := by decide +kernel
theorem dX7_carryOutOrder_110 : decode cX7_carryOutOrder 110 = .ok (.getfield 240, 3) := by decide +kernel
theorem dX7_carryOutOrder_113 : decode cX7_carryOutOrder 113 = .ok (.invokevirtual 65, 3) := by decide +kernel
theorem dX7_carryOutOrder_116 : decode cX7_carryOutOrder 116 = .ok (.ireturn, 1) := by decide +kernel
theorem dX7_carryOutOrder_117 : decode cX7_carryOutOrder 117 = .ok (.aload_n 0, 1) := by decide +kernel
theorem dX7_carryOutOrder_118 : decode cX7_carryOutOrder 118 = .ok (.getfield 10, 3) := by decide +kernel
theorem dX7_carryOutOrder_121 : decode cX7_carryOutOrder 121 = .ok (.iconst 1, 1) := by decide +kernel
theorem dX7_carryOutOrder_122 : decode cX7_carryOutOrder 122 = .ok (.aload_n 0, 1) := by decide +kernel
theorem dX7_carryOutOrder_123 : decode cX7_carryOutOrder 123 = .ok (.getfield 26, 3) := by decide +kernel
theorem dX7_carryOutOrder_126 : decode cX7_carryOutOrder 126 = .ok (.getfield 240, 3) := by decide +kernel
theorem dX7_carryOutOrder_129 : decode cX7_carryOutOrder 129 = .ok (.invokevirtual 65, 3) := by decide +kernel
theorem dX7_carryOutOrder_132 : decode cX7_carryOutOrder 132 = .ok (.ireturn, 1) := by decide +kernel
theorem dX7_carryOutOrder_133 : decode cX7_carryOutOrder 133 = .ok (.aload_n 0, 1) := by decide +kernel
theorem dX7_carryOutOrder_134 : decode cX7_carryOutOrder 134 = .ok (.getfield 10, 3) := by decide +kernel
theorem dX7_carryOutOrder_137 : decode cX7_carryOutOrder 137 = .ok (.aload_n 0, 1) := by decide +kernel
theorem dX7_carryOutOrder_138 : decode cX7_carryOutOrder 138 = .ok (.getfield 26, 3) := by decide +kernel
theorem dX7_carryOutOrder_141 : decode cX7_carryOutOrder 141 = .ok (.getfield 240, 3) := by decide +kernel
theorem dX7_carryOutOrder_144 : decode cX7_carryOutOrder 144 = .ok (.aload_n 0, 1) := by decide +kernel
theorem dX7_carryOutOrder_145 : decode cX7_carryOutOrder 145 = .ok (.getfield 26, 3) := by decide +kernel
theorem dX7_carryOutOrder_148 : decode cX7_carryOutOrder 148 = .ok (.getfield 243, 3) := by decide +kernel
theorem dX7_carryOutOrder_151 : decode cX7_carryOutOrder 151 = .ok (.invokevirtual 58, 3) := by decide +kernel
theorem dX7_carryOutOrder_154 : decode cX7_carryOutOrder 154 = .ok (.ireturn, 1) := by decide +kernel
theorem dX7_undo_0 : decode cX7_undo 0 = .ok (.aload_n 0, 1) := by decide +kernel
theorem dX7_undo_1 : decode cX7_undo 1 = .ok (.getfield 33, 3) := by decide +kernel
theorem dX7_undo_4 : decode cX7_undo 4 = .ok (.aload_n 0, 1) := by decide +kernel
theorem dX7_undo_5 : decode cX7_undo 5 = .ok (.getfield 10, 3) := by decide +kernel
theorem dX7_undo_8 : decode cX7_undo 8 = .ok (.invokevirtual 246, 3) := by decide +kernel
theorem dX7_undo_11 : decode cX7_undo 11 = .ok (.ireturn, 1) := by decide +kernel
theorem dX7_save_0 : decode cX7_save 0 = .ok (.iload_n 1, 1) := by decide +kernel
theorem dX7_save_1 : decode cX7_save 1 = .ok (.ifCond .lt 12, 3) := by decide +kernel
theorem dX7_save_4 : decode cX7_save 4 = .ok (.iload_n 1, 1) := by decide +kernel
theorem dX7_save_5 : decode cX7_save 5 = .ok (.aload_n 0, 1) := by decide +kernel
theorem dX7_save_6 : decode cX7_save 6 = .ok (.getfield 37, 3) := by decide +kernel
theorem dX7_save_9 : decode cX7_save 9 = .ok (.arraylength, 1) := by decide +kernel
theorem dX7_save_10 : decode cX7_save 10 = .ok (.if_icmp .lt 6, 3) := by decide +kernel
theorem dX7_save_13 : decode cX7_save 13 = .ok (.bipush (-2), 2) := by decide +kernel
theorem dX7_save_15 : decode cX7_save 15 = .ok (.ireturn, 1) := by decide +kernel
theorem dX7_save_16 : decode cX7_save 16 = .ok (.aload_n 0, 1) := by decide +kernel
theorem dX7_save_17 : decode cX7_save 17 = .ok (.getfield 37, 3) := by decide +kernel
theorem dX7_save_20 : decode cX7_save 20 = .ok (.iload_n 1, 1) := by decide +kernel
theorem dX7_save_21 : decode cX7_save 21 = .ok (.aaload, 1) := by decide +kernel
theorem dX7_save_22 : decode cX7_save 22 = .ok (.astore_n 2, 1) := by decide +kernel
theorem dX7_save_23 : decode cX7_save 23 = .ok (.aload_n 2, 1) := by decide +kernel
theorem dX7_save_24 : decode cX7_save 24 = .ok (.ifnonnull 18, 3) := by decide +kernel
theorem dX7_save_27 : decode cX7_save 27 = .ok (.new 7, 3) := by decide +kernel
theorem dX7_save_30 : decode cX7_save 30 = .ok (.dup, 1) := by decide +kernel
theorem dX7_save_31 : decode cX7_save 31 = .ok (.invokespecial 9, 3) := by decide +kernel
theorem dX7_save_34 : decode cX7_save 34 = .ok (.astore_n 2, 1) := by decide +kernel
theorem dX7_save_35 : decode cX7_save 35 = .ok (.aload_n 0, 1) := by decide +kernel
theorem dX7_save_36 : decode cX7_save 36 = .ok (.getfield 37, 3) := by decide +kernel
theorem dX7_save_39 : decode cX7_save 39 = .ok (.iload_n 1, 1) := by decide +kernel
theorem dX7_save_40 : decode cX7_save 40 = .ok (.aload_n 2, 1) := by decide +kernel
theorem dX7_save_41 : decode cX7_save 41 = .ok (.aastore, 1) := by decide +kernel
theorem dX7_save_42 : decode cX7_save 42 = .ok (.aload_n 2, 1) := by decide +kernel
theorem dX7_save_43 : decode cX7_save 43 = .ok (.aload_n 0, 1) := by decide +kernel
theorem dX7_save_44 : decode cX7_save 44 = .ok (.getfield 10, 3) := by decide +kernel
theorem dX7_save_47 : decode cX7_save 47 = .ok (.invokevirtual 250, 3) := by decide +kernel
theorem dX7_save_50 : decode cX7_save 50 = .ok (.aload_n 0, 1) := by decide +kernel
theorem dX7_save_51 : decode cX7_save 51 = .ok (.getfield 10, 3) := by decide +kernel
theorem dX7_save_54 : decode cX7_save 54 = .ok (.getfield 68, 3) := by decide +kernel
theorem dX7_save_57 : decode cX7_save 57 = .ok (.getfield 155, 3) := by decide +kernel
theorem dX7_save_60 : decode cX7_save 60 = .ok (.ireturn, 1) := by decide +kernel
theorem dX7_restore_0 : decode cX7_restore 0 = .ok (.iload_n 1, 1) := by decide +kernel
theorem dX7_restore_1 : decode cX7_restore 1 = .ok (.ifCond .lt 12, 3) := by decide +kernel
theorem dX7_restore_4 : decode cX7_restore 4 = .ok (.iload_n 1, 1) := by decide +kernel
theorem dX7_restore_5 : decode cX7_restore 5 = .ok (.aload_n 0, 1) := by decide +kernel
theorem dX7_restore_6 : decode cX7_restore 6 = .ok (.getfield 37, 3) := by decide +kernel
theorem dX7_restore_9 : decode cX7_restore 9 = .ok (.arraylength, 1) := by decide +kernel
theorem dX7_restore_10 : decode cX7_restore 10 = .ok (.if_icmp .lt 6, 3) := by decide +kernel
theorem dX7_restore_13 : decode cX7_restore 13 = .ok (.bipush (-2), 2) := by decide +kernel
theorem dX7_restore_15 : decode cX7_restore 15 = .ok (.ireturn, 1) := by decide +kernel
theorem dX7_restore_16 : decode cX7_restore 16 = .ok (.aload_n 0, 1) := by decide +kernel
theorem dX7_restore_17 : decode cX7_restore 17 = .ok (.getfield 37, 3) := by decide +kernel
theorem dX7_restore_20 : decode cX7_restore 20 = .ok (.iload_n 1, 1) := by decide +kernel
theorem dX7_restore_21 : decode cX7_restore 21 = .ok (.aaload, 1) := by decide +kernel
theorem dX7_restore_22 : decode cX7_restore 22 = .ok (.astore_n 2, 1) := by decide +kernel
theorem dX7_restore_23 : decode cX7_restore 23 = .ok (.aload_n 2, 1) := by decide +kernel
theorem dX7_restore_24 : decode cX7_restore 24 = .ok (.ifnonnull 6, 3) := by decide +kernel
theorem dX7_restore_27 : decode cX7_restore 27 = .ok (.bipush (-5), 2) := by decide +kernel
theorem dX7_restore_29 : decode cX7_restore 29 = .ok (.ireturn, 1) := by decide +kernel
theorem dX7_restore_30 : decode cX7_restore 30 = .ok (.aload_n 0, 1) := by decide +kernel
theorem dX7_restore_31 : decode cX7_restore 31 = .ok (.getfield 33, 3) := by decide +kernel
theorem dX7_restore_34 : decode cX7_restore 34 = .ok (.aload_n 0, 1) := by decide +kernel
theorem dX7_restore_35 : decode cX7_restore 35 = .ok (.getfield 10, 3) := by decide +kernel
theorem dX7_restore_38 : decode cX7_restore 38 = .ok (.invokevirtual 41, 3) := by decide +kernel
theorem dX7_restore_41 : decode cX7_restore 41 = .ok (.aload_n 0, 1) := by decide +kernel
theorem dX7_restore_42 : decode cX7_restore 42 = .ok (.getfield 10, 3) := by decide +kernel
theorem dX7_restore_45 : decode cX7_restore 45 = .ok (.aload_n 2, 1) := by decide +kernel
theorem dX7_restore_46 : decode cX7_restore 46 = .ok (.invokevirtual 250, 3) := by decide +kernel
theorem dX7_restore_49 : decode cX7_restore 49 = .ok (.aload_n 0, 1) := by decide +kernel
theorem dX7_restore_50 : decode cX7_restore 50 = .ok (.getfield 33, 3) := by decide +kernel
theorem dX7_restore_53 : decode cX7_restore 53 = .ok (.aload_n 0, 1) := by decide +kernel
theorem dX7_restore_54 : decode cX7_restore 54 = .ok (.getfield 10, 3) := by decide +kernel
theorem dX7_restore_57 : decode cX7_restore 57 = .ok (.getfield 68, 3) := by decide +kernel
theorem dX7_restore_60 : decode cX7_restore 60 = .ok (.getfield 155, 3) := by decide +kernel
theorem dX7_restore_63 : decode cX7_restore 63 = .ok (.invokevirtual 49, 3) := by decide +kernel
theorem dX7_restore_66 : decode cX7_restore 66 = .ok (.ireturn, 1) := by decide +kernel
theorem dX7_oneIf_0 : decode cX7_oneIf 0 = .ok (.iload_n 0, 1) := by decide +kernel
theorem dX7_oneIf_1 : decode cX7_oneIf 1 = .ok (.ifCond .eq 7, 3) := by decide +kernel
theorem dX7_oneIf_4 : decode cX7_oneIf 4 = .ok (.iconst 1, 1) := by decide +kernel
theorem dX7_oneIf_5 : decode cX7_oneIf 5 = .ok (.goto 4, 3) := by decide +kernel
theorem dX7_oneIf_8 : decode cX7_oneIf 8 = .ok (.iconst 0, 1) := by decide +kernel
theorem dX7_oneIf_9 : decode cX7_oneIf 9 = .ok (.ireturn, 1) := by decide +kernel
theorem dX7_setOf_0 : decode cX7_setOf 0 = .ok (.iload_n 0, 1) := by decide +kernel
theorem dX7_setOf_1 : decode cX7_setOf 1 = .ok (.ifCond .lt 15, 3) := by decide +kernel
theorem dX7_setOf_4 : decode cX7_setOf 4 = .ok (.iload_n 0, 1) := by decide +kernel
theorem dX7_setOf_5 : decode cX7_setOf 5 = .ok (.bipush 32, 2) := by decide +kernel
theorem dX7_setOf_7 : decode cX7_setOf 7 = .ok (.if_icmp .ge 9, 3) := by decide +kernel
theorem dX7_setOf_10 : decode cX7_setOf 10 = .ok (.iconst 1, 1) := by decide +kernel
theorem dX7_setOf_11 : decode cX7_setOf 11 = .ok (.iload_n 0, 1) := by decide +kernel
theorem dX7_setOf_12 : decode cX7_setOf 12 = .ok (.ishl, 1) := by decide +kernel
theorem dX7_setOf_13 : decode cX7_setOf 13 = .ok (.goto 4, 3) := by decide +kernel
theorem dX7_setOf_16 : decode cX7_setOf 16 = .ok (.iconst 0, 1) := by decide +kernel
theorem dX7_setOf_17 : decode cX7_setOf 17 = .ok (.ireturn, 1) := by decide +kernel
theorem dX7_has_0 : decode cX7_has 0 = .ok (.iload_n 1, 1) := by decide +kernel
theorem dX7_has_1 : decode cX7_has 1 = .ok (.ifCond .lt 21, 3) := by decide +kernel
theorem dX7_has_4 : decode cX7_has 4 = .ok (.iload_n 1, 1) := by decide +kernel
theorem dX7_has_5 : decode cX7_has 5 = .ok (.bipush 32, 2) := by decide +kernel
theorem dX7_has_7 : decode cX7_has 7 = .ok (.if_icmp .ge 15, 3) := by decide +kernel
theorem dX7_has_10 : decode cX7_has 10 = .ok (.iload_n 0, 1) := by decide +kernel
theorem dX7_has_11 : decode cX7_has 11 = .ok (.iload_n 1, 1) := by decide +kernel
theorem dX7_has_12 : decode cX7_has 12 = .ok (.iushr, 1) := by decide +kernel
theorem dX7_has_13 : decode cX7_has 13 = .ok (.iconst 1, 1) := by decide +kernel
theorem dX7_has_14 : decode cX7_has 14 = .ok (.iand, 1) := by decide +kernel
theorem dX7_has_15 : decode cX7_has 15 = .ok (.ifCond .eq 7, 3) := by decide +kernel
theorem dX7_has_18 : decode cX7_has 18 = .ok (.iconst 1, 1) := by decide +kernel
theorem dX7_has_19 : decode cX7_has 19 = .ok (.goto 4, 3) := by decide +kernel
theorem dX7_has_22 : decode cX7_has 22 = .ok (.iconst 0, 1) := by decide +kernel
theorem dX7_has_23 : decode cX7_has 23 = .ok (.ireturn, 1) := by decide +kernel
theorem dX7_arePlaces_0 : decode cX7_arePlaces 0 = .ok (.iload_n 0, 1) := by decide +kernel
theorem dX7_arePlaces_1 : decode cX7_arePlaces 1 = .ok (.ifCond .lt 13, 3) := by decide +kernel
theorem dX7_arePlaces_4 : decode cX7_arePlaces 4 = .ok (.iload_n 0, 1) := by decide +kernel
theorem dX7_arePlaces_5 : decode cX7_arePlaces 5 = .ok (.bipush 7, 2) := by decide +kernel
theorem dX7_arePlaces_7 : decode cX7_arePlaces 7 = .ok (.if_icmp .gt 7, 3) := by decide +kernel
theorem dX7_arePlaces_10 : decode cX7_arePlaces 10 = .ok (.iconst 1, 1) := by decide +kernel
theorem dX7_arePlaces_11 : decode cX7_arePlaces 11 = .ok (.goto 4, 3) := by decide +kernel
theorem dX7_arePlaces_14 : decode cX7_arePlaces 14 = .ok (.iconst 0, 1) := by decide +kernel
theorem dX7_arePlaces_15 : decode cX7_arePlaces 15 = .ok (.ireturn, 1) := by decide +kernel
theorem dJ6_bitCount_0f7a4_0 : decode cJ6_bitCount_0f7a4 0 = .ok (.iload_n 0, 1) := by decide +kernel
theorem dJ6_bitCount_0f7a4_1 : decode cJ6_bitCount_0f7a4 1 = .ok (.iload_n 0, 1) := by decide +kernel
theorem dJ6_bitCount_0f7a4_2 : decode cJ6_bitCount_0f7a4 2 = .ok (.iconst 1, 1) := by decide +kernel
theorem dJ6_bitCount_0f7a4_3 : decode cJ6_bitCount_0f7a4 3 = .ok (.iushr, 1) := by decide +kernel
theorem dJ6_bitCount_0f7a4_4 : decode cJ6_bitCount_0f7a4 4 = .ok (.ldc_w 265, 3) := by decide +kernel
theorem dJ6_bitCount_0f7a4_7 : decode cJ6_bitCount_0f7a4 7 = .ok (.iand, 1) := by decide +kernel
theorem dJ6_bitCount_0f7a4_8 : decode cJ6_bitCount_0f7a4 8 = .ok (.isub, 1) := by decide +kernel
theorem dJ6_bitCount_0f7a4_9 : decode cJ6_bitCount_0f7a4 9 = .ok (.istore_n 0, 1) := by decide +kernel
theorem dJ6_bitCount_0f7a4_10 : decode cJ6_bitCount_0f7a4 10 = .ok (.iload_n 0, 1) := by decide +kernel
theorem dJ6_bitCount_0f7a4_11 : decode cJ6_bitCount_0f7a4 11 = .ok (.ldc_w 266, 3) := by decide +kernel
theorem dJ6_bitCount_0f7a4_14 : decode cJ6_bitCount_0f7a4 14 = .ok (.iand, 1) := by decide +kernel
theorem dJ6_bitCount_0f7a4_15 : decode cJ6_bitCount_0f7a4 15 = .ok (.iload_n 0, 1) := by decide +kernel
theorem dJ6_bitCount_0f7a4_16 : decode cJ6_bitCount_0f7a4 16 = .ok (.iconst 2, 1) := by decide +kernel
theorem dJ6_bitCount_0f7a4_17 : decode cJ6_bitCount_0f7a4 17 = .ok (.iushr, 1) := by decide +kernel
theorem dJ6_bitCount_0f7a4_18 : decode cJ6_bitCount_0f7a4 18 = .ok (.ldc_w 266, 3) := by decide +kernel
theorem dJ6_bitCount_0f7a4_21 : decode cJ6_bitCount_0f7a4 21 = .ok (.iand, 1) := by decide +kernel
theorem dJ6_bitCount_0f7a4_22 : decode cJ6_bitCount_0f7a4 22 = .ok (.iadd, 1) := by decide +kernel
theorem dJ6_bitCount_0f7a4_23 : decode cJ6_bitCount_0f7a4 23 = .ok (.istore_n 0, 1) := by decide +kernel
theorem dJ6_bitCount_0f7a4_24 : decode cJ6_bitCount_0f7a4 24 = .ok (.iload_n 0, 1) := by decide +kernel
theorem dJ6_bitCount_0f7a4_25 : decode cJ6_bitCount_0f7a4 25 = .ok (.iload_n 0, 1) := by decide +kernel
theorem dJ6_bitCount_0f7a4_26 : decode cJ6_bitCount_0f7a4 26 = .ok (.iconst 4, 1) := by decide +kernel
theorem dJ6_bitCount_0f7a4_27 : decode cJ6_bitCount_0f7a4 27 = .ok (.iushr, 1) := by decide +kernel
theorem dJ6_bitCount_0f7a4_28 : decode cJ6_bitCount_0f7a4 28 = .ok (.iadd, 1) := by decide +kernel
theorem dJ6_bitCount_0f7a4_29 : decode cJ6_bitCount_0f7a4 29 = .ok (.ldc_w 267, 3) := by decide +kernel
theorem dJ6_bitCount_0f7a4_32 : decode cJ6_bitCount_0f7a4 32 = .ok (.iand, 1) := by decide +kernel
theorem dJ6_bitCount_0f7a4_33 : decode cJ6_bitCount_0f7a4 33 = .ok (.istore_n 0, 1) := by decide +kernel
theorem dJ6_bitCount_0f7a4_34 : decode cJ6_bitCount_0f7a4 34 = .ok (.iload_n 0, 1) := by decide +kernel
theorem dJ6_bitCount_0f7a4_35 : decode cJ6_bitCount_0f7a4 35 = .ok (.iload_n 0, 1) := by decide +kernel
theorem dJ6_bitCount_0f7a4_36 : decode cJ6_bitCount_0f7a4 36 = .ok (.bipush 8, 2) := by decide +kernel
theorem dJ6_bitCount_0f7a4_38 : decode cJ6_bitCount_0f7a4 38 = .ok (.iushr, 1) := by decide +kernel
theorem dJ6_bitCount_0f7a4_39 : decode cJ6_bitCount_0f7a4 39 = .ok (.iadd, 1) := by decide +kernel
theorem dJ6_bitCount_0f7a4_40 : decode cJ6_bitCount_0f7a4 40 = .ok (.istore_n 0, 1) := by decide +kernel
theorem dJ6_bitCount_0f7a4_41 : decode cJ6_bitCount_0f7a4 41 = .ok (.iload_n 0, 1) := by decide +kernel
theorem dJ6_bitCount_0f7a4_42 : decode cJ6_bitCount_0f7a4 42 = .ok (.iload_n 0, 1) := by decide +kernel
theorem dJ6_bitCount_0f7a4_43 : decode cJ6_bitCount_0f7a4 43 = .ok (.bipush 16, 2) := by decide +kernel
theorem dJ6_bitCount_0f7a4_45 : decode cJ6_bitCount_0f7a4 45 = .ok (.iushr, 1) := by decide +kernel
theorem dJ6_bitCount_0f7a4_46 : decode cJ6_bitCount_0f7a4 46 = .ok (.iadd, 1) := by decide +kernel
theorem dJ6_bitCount_0f7a4_47 : decode cJ6_bitCount_0f7a4 47 = .ok (.istore_n 0, 1) := by decide +kernel
theorem dJ6_bitCount_0f7a4_48 : decode cJ6_bitCount_0f7a4 48 = .ok (.iload_n 0, 1) := by decide +kernel
theorem dJ6_bitCount_0f7a4_49 : decode cJ6_bitCount_0f7a4 49 = .ok (.bipush 63, 2) := by decide +kernel
theorem dJ6_bitCount_0f7a4_51 : decode cJ6_bitCount_0f7a4 51 = .ok (.iand, 1) := by decide +kernel
theorem dJ6_bitCount_0f7a4_52 : decode cJ6_bitCount_0f7a4 52 = .ok (.ireturn, 1) := by decide +kernel
theorem dJ9_max_7cf53_0 : decode cJ9_max_7cf53 0 = .ok (.iload_n 0, 1) := by decide +kernel
theorem dJ9_max_7cf53_1 : decode cJ9_max_7cf53 1 = .ok (.iload_n 1, 1) := by decide +kernel
theorem dJ9_max_7cf53_2 : decode cJ9_max_7cf53 2 = .ok (.if_icmp .lt 7, 3) := by decide +kernel
theorem dJ9_max_7cf53_5 : decode cJ9_max_7cf53 5 = .ok (.iload_n 0, 1) := by decide +kernel
theorem dJ9_max_7cf53_6 : decode cJ9_max_7cf53 6 = .ok (.goto 4, 3) := by decide +kernel
theorem dJ9_max_7cf53_9 : decode cJ9_max_7cf53 9 = .ok (.iload_n 1, 1) := by decide +kernel
theorem dJ9_max_7cf53_10 : decode cJ9_max_7cf53 10 = .ok (.ireturn, 1) := by decide +kernel
theorem dJ9_min_7cf53_0 : decode cJ9_min_7cf53 0 = .ok (.iload_n 0, 1) := by decide +kernel
theorem dJ9_min_7cf53_1 : decode cJ9_min_7cf53 1 = .ok (.iload_n 1, 1) := by decide +kernel
theorem dJ9_min_7cf53_2 : decode cJ9_min_7cf53 2 = .ok (.if_icmp .gt 7, 3) := by decide +kernel
theorem dJ9_min_7cf53_5 : decode cJ9_min_7cf53 5 = .ok (.iload_n 0, 1) := by decide +kernel
theorem dJ9_min_7cf53_6 : decode cJ9_min_7cf53 6 = .ok (.goto 4, 3) := by decide +kernel
theorem dJ9_min_7cf53_9 : decode cJ9_min_7cf53 9 = .ok (.iload_n 1, 1) := by decide +kernel
theorem dJ9_min_7cf53_10 : decode cJ9_min_7cf53 10 = .ok (.ireturn, 1) := by decide +kernel
theorem dL_law_0 : decode cL_law 0 = .ok (.new 7, 3) := by decide +kernel
theorem dL_law_3 : decode cL_law 3 = .ok (.dup, 1) := by decide +kernel
theorem dL_law_4 : decode cL_law 4 = .ok (.invokespecial 9, 3) := by decide +kernel
theorem dL_law_7 : decode cL_law 7 = .ok (.astore_n 1, 1) := by decide +kernel
theorem dL_law_8 : decode cL_law 8 = .ok (.new 10, 3) := by decide +kernel
theorem dL_law_11 : decode cL_law 11 = .ok (.dup, 1) := by decide +kernel
theorem dL_law_12 : decode cL_law 12 = .ok (.invokespecial 12, 3) := by decide +kernel
theorem dL_law_15 : decode cL_law 15 = .ok (.astore_n 2, 1) := by decide +kernel
theorem dL_law_16 : decode cL_law 16 = .ok (.iconst 0, 1) := by decide +kernel
theorem dL_law_17 : decode cL_law 17 = .ok (.istore_n 3, 1) := by decide +kernel
theorem dL_law_18 : decode cL_law 18 = .ok (.iload_n 3, 1) := by decide +kernel
theorem dL_law_19 : decode cL_law 19 = .ok (.aload_n 0, 1) := by decide +kernel
theorem dL_law_20 : decode cL_law 20 = .ok (.arraylength, 1) := by decide +kernel
theorem dL_law_21 : decode cL_law 21 = .ok (.iconst 4, 1) := by decide +kernel
theorem dL_law_22 : decode cL_law 22 = .ok (.isub, 1) := by decide +kernel
theorem dL_law_23 : decode cL_law 23 = .ok (.if_icmp .gt 806, 3) := by decide +kernel
theorem dL_law_26 : decode cL_law 26 = .ok (.aload_n 0, 1) := by decide +kernel
theorem dL_law_27 : decode cL_law 27 = .ok (.iload_n 3, 1) := by decide +kernel
theorem dL_law_28 : decode cL_law 28 = .ok (.iaload, 1) := by decide +kernel
theorem dL_law_29 : decode cL_law 29 = .ok (.bipush 31, 2) := by decide +kernel
theorem dL_law_31 : decode cL_law 31 = .ok (.iand, 1) := by decide +kernel
theorem dL_law_32 : decode cL_law 32 = .ok (.tableswitch 791 0 24 #[116, 139, 162, 185, 218, 241, 264, 287, 320, 353, 386, 409, 442, 485, 518, 561, 584, 617, 640, 693, 706, 719, 732, 745, 768], 116) := by decide +kernel
theorem dL_law_148 : decode cL_law 148 = .ok (.aload_n 1, 1) := by decide +kernel
theorem dL_law_149 : decode cL_law 149 = .ok (.aload_n 0, 1) := by decide +kernel
theorem dL_law_150 : decode cL_law 150 = .ok (.iload_n 3, 1) := by decide +kernel
theorem dL_law_151 : decode cL_law 151 = .ok (.iconst 1, 1) := by decide +kernel
theorem dL_law_152 : decode cL_law 152 = .ok (.iadd, 1) := by decide +kernel
theorem dL_law_153 : decode cL_law 153 = .ok (.iaload, 1) := by decide +kernel
theorem dL_law_154 : decode cL_law 154 = .ok (.invokevirtual 13, 3) := by decide +kernel
theorem dL_law_157 : decode cL_law 157 = .ok (.aload_n 2, 1) := by decide +kernel
theorem dL_law_158 : decode cL_law 158 = .ok (.aload_n 0, 1) := by decide +kernel
theorem dL_law_159 : decode cL_law 159 = .ok (.iload_n 3, 1) := by decide +kernel
theorem dL_law_160 : decode cL_law 160 = .ok (.iconst 1, 1) := by decide +kernel
theorem dL_law_161 : decode cL_law 161 = .ok (.iadd, 1) := by decide +kernel
theorem dL_law_162 : decode cL_law 162 = .ok (.iaload, 1) := by decide +kernel
theorem dL_law_163 : decode cL_law 163 = .ok (.invokevirtual 17, 3) := by decide +kernel
theorem dL_law_166 : decode cL_law 166 = .ok (.if_icmp .eq 657, 3) := by decide +kernel
theorem dL_law_169 : decode cL_law 169 = .ok (.iconst 0, 1) := by decide +kernel
theorem dL_law_170 : decode cL_law 170 = .ok (.ireturn, 1) := by decide +kernel
theorem dL_law_171 : decode cL_law 171 = .ok (.aload_n 1, 1) := by decide +kernel
theorem dL_law_172 : decode cL_law 172 = .ok (.aload_n 0, 1) := by decide +kernel
theorem dL_law_173 : decode cL_law 173 = .ok (.iload_n 3, 1) := by decide +kernel
theorem dL_law_174 : decode cL_law 174 = .ok (.iconst 1, 1) := by decide +kernel
theorem dL_law_175 : decode cL_law 175 = .ok (.iadd, 1) := by decide +kernel
theorem dL_law_176 : decode cL_law 176 = .ok (.iaload, 1) := by decide +kernel
theorem dL_law_177 : decode cL_law 177 = .ok (.invokevirtual 18, 3) := by decide +kernel
theorem dL_law_180 : decode cL_law 180 = .ok (.aload_n 2, 1) := by decide +kernel
theorem dL_law_181 : decode cL_law 181 = .ok (.aload_n 0, 1) := by decide +kernel
theorem dL_law_182 : decode cL_law 182 = .ok (.iload_n 3, 1) := by decide +kernel
theorem dL_law_183 : decode cL_law 183 = .ok (.iconst 1, 1) := by decide +kernel
theorem dL_law_184 : decode cL_law 184 = .ok (.iadd, 1) := by decide +kernel
theorem dL_law_185 : decode cL_law 185 = .ok (.iaload, 1) := by decide +kernel
theorem dL_law_186 : decode cL_law 186 = .ok (.invokevirtual 21, 3) := by decide +kernel
theorem dL_law_189 : decode cL_law 189 = .ok (.if_icmp .eq 634, 3) := by decide +kernel
theorem dL_law_192 : decode cL_law 192 = .ok (.iconst 0, 1) := by decide +kernel
theorem dL_law_193 : decode cL_law 193 = .ok (.ireturn, 1) := by decide +kernel
theorem dL_law_194 : decode cL_law 194 = .ok (.aload_n 1, 1) := by decide +kernel
theorem dL_law_195 : decode cL_law 195 = .ok (.aload_n 0, 1) := by decide +kernel
theorem dL_law_196 : decode cL_law 196 = .ok (.iload_n 3, 1) := by decide +kernel
theorem dL_law_197 : decode cL_law 197 = .ok (.iconst 1, 1) := by decide +kernel
theorem dL_law_198 : decode cL_law 198 = .ok (.iadd, 1) := by decide +kernel
theorem dL_law_199 : decode cL_law 199 = .ok (.iaload, 1) := by decide +kernel
theorem dL_law_200 : decode cL_law 200 = .ok (.invokevirtual 22, 3) := by decide +kernel
theorem dL_law_203 : decode cL_law 203 = .ok (.aload_n 2, 1) := by decide +kernel
theorem dL_law_204 : decode cL_law 204 = .ok (.aload_n 0, 1) := by decide +kernel
theorem dL_law_205 : decode cL_law 205 = .ok (.iload_n 3, 1) := by decide +kernel
theorem dL_law_206 : decode cL_law 206 = .ok (.iconst 1, 1) := by decide +kernel
theorem dL_law_207 : decode cL_law 207 = .ok (.iadd, 1) := by decide +kernel
theorem dL_law_208 : decode cL_law 208 = .ok (.iaload, 1) := by decide +kernel
theorem dL_law_209 : decode cL_law 209 = .ok (.invokevirtual 25, 3) := by decide +kernel
theorem dL_law_212 : decode cL_law 212 = .ok (.if_icmp .eq 611, 3) := by decide +kernel
theorem dL_law_215 : decode cL_law 215 = .ok (.iconst 0, 1) := by decide +kernel
theorem dL_law_216 : decode cL_law 216 = .ok (.ireturn, 1) := by decide +kernel
theorem dL_law_217 : decode cL_law 217 = .ok (.aload_n 1, 1) := by decide +kernel
theorem dL_law_218 : decode cL_law 218 = .ok (.aload_n 0, 1) := by decide +kernel
theorem dL_law_219 : decode cL_law 219 = .ok (.iload_n 3, 1) := by decide +kernel
theorem dL_law_220 : decode cL_law 220 = .ok (.iconst 1, 1) := by decide +kernel
theorem dL_law_221 : decode cL_law 221 = .ok (.iadd, 1) := by decide +kernel
theorem dL_law_222 : decode cL_law 222 = .ok (.iaload, 1) := by decide +kernel
theorem dL_law_223 : decode cL_law 223 = .ok (.aload_n 0, 1) := by decide +kernel
theorem dL_law_224 : decode cL_law 224 = .ok (.iload_n 3, 1) := by decide +kernel
theorem dL_law_225 : decode cL_law 225 = .ok (.iconst 2, 1) := by decide +kernel
theorem dL_law_226 : decode cL_law 226 = .ok (.iadd, 1) := by decide +kernel
theorem dL_law_227 : decode cL_law 227 = .ok (.iaload, 1) := by decide +kernel
theorem dL_law_228 : decode cL_law 228 = .ok (.invokevirtual 26, 3) := by decide +kernel
theorem dL_law_231 : decode cL_law 231 = .ok (.aload_n 2, 1) := by decide +kernel
theorem dL_law_232 : decode cL_law 232 = .ok (.aload_n 0, 1) := by decide +kernel
theorem dL_law_233 : decode cL_law 233 = .ok (.iload_n 3, 1) := by decide +kernel
theorem dL_law_234 : decode cL_law 234 = .ok (.iconst 1, 1) := by decide +kernel
theorem dL_law_235 : decode cL_law 235 = .ok (.iadd, 1) := by decide +kernel
theorem dL_law_236 : decode cL_law 236 = .ok (.iaload, 1) := by decide +kernel
theorem dL_law_237 : decode cL_law 237 = .ok (.aload_n 0, 1) := by decide +kernel
theorem dL_law_238 : decode cL_law 238 = .ok (.iload_n 3, 1) := by decide +kernel
theorem dL_law_239 : decode cL_law 239 = .ok (.iconst 2, 1) := by decide +kernel
theorem dL_law_240 : decode cL_law 240 = .ok (.iadd, 1) := by decide +kernel
theorem dL_law_241 : decode cL_law 241 = .ok (.iaload, 1) := by decide +kernel
theorem dL_law_242 : decode cL_law 242 = .ok (.invokevirtual 30, 3) := by decide +kernel
theorem dL_law_245 : decode cL_law 245 = .ok (.if_icmp .eq 578, 3) := by decide +kernel
theorem dL_law_248 : decode cL_law 248 = .ok (.iconst 0, 1) := by decide +kernel
theorem dL_law_249 : decode cL_law 249 = .ok (.ireturn, 1) := by decide +kernel
theorem dL_law_250 : decode cL_law 250 = .ok (.aload_n 1, 1) := by decide +kernel
theorem dL_law_251 : decode cL_law 251 = .ok (.aload_n 0, 1) := by decide +kernel
theorem dL_law_252 : decode cL_law 252 = .ok (.iload_n 3, 1) := by decide +kernel
theorem dL_law_253 : decode cL_law 253 = .ok (.iconst 1, 1) := by decide +kernel
theorem dL_law_254 : decode cL_law 254 = .ok (.iadd, 1) := by decide +kernel
theorem dL_law_255 : decode cL_law 255 = .ok (.iaload, 1) := by decide +kernel
theorem dL_law_256 : decode cL_law 256 = .ok (.invokevirtual 31, 3) := by decide +kernel
theorem dL_law_259 : decode cL_law 259 = .ok (.aload_n 2, 1) := by decide +kernel
theorem dL_law_260 : decode cL_law 260 = .ok (.aload_n 0, 1) := by decide +kernel
theorem dL_law_261 : decode cL_law 261 = .ok (.iload_n 3, 1) := by decide +kernel
theorem dL_law_262 : decode cL_law 262 = .ok (.iconst 1, 1) := by decide +kernel
theorem dL_law_263 : decode cL_law 263 = .ok (.iadd, 1) := by decide +kernel
theorem dL_law_264 : decode cL_law 264 = .ok (.iaload, 1) := by decide +kernel
theorem dL_law_265 : decode cL_law 265 = .ok (.invokevirtual 34, 3) := by decide +kernel
theorem dL_law_268 : decode cL_law 268 = .ok (.if_icmp .eq 555, 3) := by decide +kernel
theorem dL_law_271 : decode cL_law 271 = .ok (.iconst 0, 1) := by decide +kernel
theorem dL_law_272 : decode cL_law 272 = .ok (.ireturn, 1) := by decide +kernel
theorem dL_law_273 : decode cL_law 273 = .ok (.aload_n 1, 1) := by decide +kernel
theorem dL_law_274 : decode cL_law 274 = .ok (.aload_n 0, 1) := by decide +kernel
theorem dL_law_275 : decode cL_law 275 = .ok (.iload_n 3, 1) := by decide +kernel
theorem dL_law_276 : decode cL_law 276 = .ok (.iconst 1, 1) := by decide +kernel
theorem dL_law_277 : decode cL_law 277 = .ok (.iadd, 1) := by decide +kernel
theorem dL_law_278 : decode cL_law 278 = .ok (.iaload, 1) := by decide +kernel
theorem dL_law_279 : decode cL_law 279 = .ok (.invokevirtual 35, 3) := by decide +kernel
theorem dL_law_282 : decode cL_law 282 = .ok (.aload_n 2, 1) := by decide +kernel
theorem dL_law_283 : decode cL_law 283 = .ok (.aload_n 0, 1) := by decide +kernel
theorem dL_law_284 : decode cL_law 284 = .ok (.iload_n 3, 1) := by decide +kernel
theorem dL_law_285 : decode cL_law 285 = .ok (.iconst 1, 1) := by decide +kernel
theorem dL_law_286 : decode cL_law 286 = .ok (.iadd, 1) := by decide +kernel
theorem dL_law_287 : decode cL_law 287 = .ok (.iaload, 1) := by decide +kernel
theorem dL_law_288 : decode cL_law 288 = .ok (.invokevirtual 38, 3) := by decide +kernel
theorem dL_law_291 : decode cL_law 291 = .ok (.if_icmp .eq 532, 3) := by decide +kernel
theorem dL_law_294 : decode cL_law 294 = .ok (.iconst 0, 1) := by decide +kernel
theorem dL_law_295 : decode cL_law 295 = .ok (.ireturn, 1) := by decide +kernel
theorem dL_law_296 : decode cL_law 296 = .ok (.aload_n 1, 1) := by decide +kernel
theorem dL_law_297 : decode cL_law 297 = .ok (.aload_n 0, 1) := by decide +kernel
theorem dL_law_298 : decode cL_law 298 = .ok (.iload_n 3, 1) := by decide +kernel
theorem dL_law_299 : decode cL_law 299 = .ok (.iconst 1, 1) := by decide +kernel
theorem dL_law_300 : decode cL_law 300 = .ok (.iadd, 1) := by decide +kernel
theorem dL_law_301 : decode cL_law 301 = .ok (.iaload, 1) := by decide +kernel
theorem dL_law_302 : decode cL_law 302 = .ok (.invokevirtual 39, 3) := by decide +kernel
theorem dL_law_305 : decode cL_law 305 = .ok (.aload_n 2, 1) := by decide +kernel
theorem dL_law_306 : decode cL_law 306 = .ok (.aload_n 0, 1) := by decide +kernel
theorem dL_law_307 : decode cL_law 307 = .ok (.iload_n 3, 1) := by decide +kernel
theorem dL_law_308 : decode cL_law 308 = .ok (.iconst 1, 1) := by decide +kernel
theorem dL_law_309 : decode cL_law 309 = .ok (.iadd, 1) := by decide +kernel
theorem dL_law_310 : decode cL_law 310 = .ok (.iaload, 1) := by decide +kernel
theorem dL_law_311 : decode cL_law 311 = .ok (.invokevirtual 42, 3) := by decide +kernel
theorem dL_law_314 : decode cL_law 314 = .ok (.if_icmp .eq 509, 3) := by decide +kernel
theorem dL_law_317 : decode cL_law 317 = .ok (.iconst 0, 1) := by decide +kernel
theorem dL_law_318 : decode cL_law 318 = .ok (.ireturn, 1) := by decide +kernel
theorem dL_law_319 : decode cL_law 319 = .ok (.aload_n 1, 1) := by decide +kernel
theorem dL_law_320 : decode cL_law 320 = .ok (.aload_n 0, 1) := by decide +kernel
theorem dL_law_321 : decode cL_law 321 = .ok (.iload_n 3, 1) := by decide +kernel
theorem dL_law_322 : decode cL_law 322 = .ok (.iconst 1, 1) := by decide +kernel
theorem dL_law_323 : decode cL_law 323 = .ok (.iadd, 1) := by decide +kernel
theorem dL_law_324 : decode cL_law 324 = .ok (.iaload, 1) := by decide +kernel
theorem dL_law_325 : decode cL_law 325 = .ok (.aload_n 0, 1) := by decide +kernel
theorem dL_law_326 : decode cL_law 326 = .ok (.iload_n 3, 1) := by decide +kernel
theorem dL_law_327 : decode cL_law 327 = .ok (.iconst 2, 1) := by decide +kernel
theorem dL_law_328 : decode cL_law 328 = .ok (.iadd, 1) := by decide +kernel
theorem dL_law_329 : decode cL_law 329 = .ok (.iaload, 1) := by decide +kernel
theorem dL_law_330 : decode cL_law 330 = .ok (.invokevirtual 43, 3) := by decide +kernel
theorem dL_law_333 : decode cL_law 333 = .ok (.aload_n 2, 1) := by decide +kernel
theorem dL_law_334 : decode cL_law 334 = .ok (.aload_n 0, 1) := by decide +kernel
theorem dL_law_335 : decode cL_law 335 = .ok (.iload_n 3, 1) := by decide +kernel
theorem dL_law_336 : decode cL_law 336 = .ok (.iconst 1, 1) := by decide +kernel
theorem dL_law_337 : decode cL_law 337 = .ok (.iadd, 1) := by decide +kernel
theorem dL_law_338 : decode cL_law 338 = .ok (.iaload, 1) := by decide +kernel
theorem dL_law_339 : decode cL_law 339 = .ok (.aload_n 0, 1) := by decide +kernel
theorem dL_law_340 : decode cL_law 340 = .ok (.iload_n 3, 1) := by decide +kernel
theorem dL_law_341 : decode cL_law 341 = .ok (.iconst 2, 1) := by decide +kernel
theorem dL_law_342 : decode cL_law 342 = .ok (.iadd, 1) := by decide +kernel
theorem dL_law_343 : decode cL_law 343 = .ok (.iaload, 1) := by decide +kernel
theorem dL_law_344 : decode cL_law 344 = .ok (.invokevirtual 46, 3) := by decide +kernel
theorem dL_law_347 : decode cL_law 347 = .ok (.if_icmp .eq 476, 3) := by decide +kernel
theorem dL_law_350 : decode cL_law 350 = .ok (.iconst 0, 1) := by decide +kernel
theorem dL_law_351 : decode cL_law 351 = .ok (.ireturn, 1) := by decide +kernel
theorem dL_law_352 : decode cL_law 352 = .ok (.aload_n 1, 1) := by decide +kernel
theorem dL_law_353 : decode cL_law 353 = .ok (.aload_n 0, 1) := by decide +kernel
theorem dL_law_354 : decode cL_law 354 = .ok (.iload_n 3, 1) := by decide +kernel
theorem dL_law_355 : decode cL_law 355 = .ok (.iconst 1, 1) := by decide +kernel
theorem dL_law_356 : decode cL_law 356 = .ok (.iadd, 1) := by decide +kernel
theorem dL_law_357 : decode cL_law 357 = .ok (.iaload, 1) := by decide +kernel
theorem dL_law_358 : decode cL_law 358 = .ok (.aload_n 0, 1) := by decide +kernel
theorem dL_law_359 : decode cL_law 359 = .ok (.iload_n 3, 1) := by decide +kernel
theorem dL_law_360 : decode cL_law 360 = .ok (.iconst 2, 1) := by decide +kernel
theorem dL_law_361 : decode cL_law 361 = .ok (.iadd, 1) := by decide +kernel
theorem dL_law_362 : decode cL_law 362 = .ok (.iaload, 1) := by decide +kernel
theorem dL_law_363 : decode cL_law 363 = .ok (.invokevirtual 47, 3) := by decide +kernel
theorem dL_law_366 : decode cL_law 366 = .ok (.aload_n 2, 1) := by decide +kernel
theorem dL_law_367 : decode cL_law 367 = .ok (.aload_n 0, 1) := by decide +kernel
theorem dL_law_368 : decode cL_law 368 = .ok (.iload_n 3, 1) := by decide +kernel
theorem dL_law_369 : decode cL_law 369 = .ok (.iconst 1, 1) := by decide +kernel
theorem dL_law_370 : decode cL_law 370 = .ok (.iadd, 1) := by decide +kernel
theorem dL_law_371 : decode cL_law 371 = .ok (.iaload, 1) := by decide +kernel
theorem dL_law_372 : decode cL_law 372 = .ok (.aload_n 0, 1) := by decide +kernel
theorem dL_law_373 : decode cL_law 373 = .ok (.iload_n 3, 1) := by decide +kernel
theorem dL_law_374 : decode cL_law 374 = .ok (.iconst 2, 1) := by decide +kernel
theorem dL_law_375 : decode cL_law 375 = .ok (.iadd, 1) := by decide +kernel
theorem dL_law_376 : decode cL_law 376 = .ok (.iaload, 1) := by decide +kernel
theorem dL_law_377 : decode cL_law 377 = .ok (.invokevirtual 50, 3) := by decide +kernel
theorem dL_law_380 : decode cL_law 380 = .ok (.if_icmp .eq 443, 3) := by decide +kernel
theorem dL_law_383 : decode cL_law 383 = .ok (.iconst 0, 1) := by decide +kernel
theorem dL_law_384 : decode cL_law 384 = .ok (.ireturn, 1) := by decide +kernel
theorem dL_law_385 : decode cL_law 385 = .ok (.aload_n 1, 1) := by decide +kernel
theorem dL_law_386 : decode cL_law 386 = .ok (.aload_n 0, 1) := by decide +kernel
theorem dL_law_387 : decode cL_law 387 = .ok (.iload_n 3, 1) := by decide +kernel
theorem dL_law_388 : decode cL_law 388 = .ok (.iconst 1, 1) := by decide +kernel
theorem dL_law_389 : decode cL_law 389 = .ok (.iadd, 1) := by decide +kernel
theorem dL_law_390 : decode cL_law 390 = .ok (.iaload, 1) := by decide +kernel
theorem dL_law_391 : decode cL_law 391 = .ok (.aload_n 0, 1) := by decide +kernel
theorem dL_law_392 : decode cL_law 392 = .ok (.iload_n 3, 1) := by decide +kernel
theorem dL_law_393 : decode cL_law 393 = .ok (.iconst 2, 1) := by decide +kernel
theorem dL_law_394 : decode cL_law 394 = .ok (.iadd, 1) := by decide +kernel
theorem dL_law_395 : decode cL_law 395 = .ok (.iaload, 1) := by decide +kernel
theorem dL_law_396 : decode cL_law 396 = .ok (.invokevirtual 51, 3) := by decide +kernel
theorem dL_law_399 : decode cL_law 399 = .ok (.aload_n 2, 1) := by decide +kernel
theorem dL_law_400 : decode cL_law 400 = .ok (.aload_n 0, 1) := by decide +kernel
theorem dL_law_401 : decode cL_law 401 = .ok (.iload_n 3, 1) := by decide +kernel
theorem dL_law_402 : decode cL_law 402 = .ok (.iconst 1, 1) := by decide +kernel
theorem dL_law_403 : decode cL_law 403 = .ok (.iadd, 1) := by decide +kernel
theorem dL_law_404 : decode cL_law 404 = .ok (.iaload, 1) := by decide +kernel
theorem dL_law_405 : decode cL_law 405 = .ok (.aload_n 0, 1) := by decide +kernel
theorem dL_law_406 : decode cL_law 406 = .ok (.iload_n 3, 1) := by decide +kernel
theorem dL_law_407 : decode cL_law 407 = .ok (.iconst 2, 1) := by decide +kernel
theorem dL_law_408 : decode cL_law 408 = .ok (.iadd, 1) := by decide +kernel
theorem dL_law_409 : decode cL_law 409 = .ok (.iaload, 1) := by decide +kernel
theorem dL_law_410 : decode cL_law 410 = .ok (.invokevirtual 54, 3) := by decide +kernel
theorem dL_law_413 : decode cL_law 413 = .ok (.if_icmp .eq 410, 3) := by decide +kernel
theorem dL_law_416 : decode cL_law 416 = .ok (.iconst 0, 1) := by decide +kernel
theorem dL_law_417 : decode cL_law 417 = .ok (.ireturn, 1) := by decide +kernel
theorem dL_law_418 : decode cL_law 418 = .ok (.aload_n 1, 1) := by decide +kernel
theorem dL_law_419 : decode cL_law 419 = .ok (.aload_n 0, 1) := by decide +kernel
theorem dL_law_420 : decode cL_law 420 = .ok (.iload_n 3, 1) := by decide +kernel
theorem dL_law_421 : decode cL_law 421 = .ok (.iconst 1, 1) := by decide +kernel
theorem dL_law_422 : decode cL_law 422 = .ok (.iadd, 1) := by decide +kernel
theorem dL_law_423 : decode cL_law 423 = .ok (.iaload, 1) := by decide +kernel
theorem dL_law_424 : decode cL_law 424 = .ok (.invokevirtual 55, 3) := by decide +kernel
theorem dL_law_427 : decode cL_law 427 = .ok (.aload_n 2, 1) := by decide +kernel
theorem dL_law_428 : decode cL_law 428 = .ok (.aload_n 0, 1) := by decide +kernel
theorem dL_law_429 : decode cL_law 429 = .ok (.iload_n 3, 1) := by decide +kernel
theorem dL_law_430 : decode cL_law 430 = .ok (.iconst 1, 1) := by decide +kernel
theorem dL_law_431 : decode cL_law 431 = .ok (.iadd, 1) := by decide +kernel
theorem dL_law_432 : decode cL_law 432 = .ok (.iaload, 1) := by decide +kernel
theorem dL_law_433 : decode cL_law 433 = .ok (.invokevirtual 58, 3) := by decide +kernel
theorem dL_law_436 : decode cL_law 436 = .ok (.if_icmp .eq 387, 3) := by decide +kernel
theorem dL_law_439 : decode cL_law 439 = .ok (.iconst 0, 1) := by decide +kernel
theorem dL_law_440 : decode cL_law 440 = .ok (.ireturn, 1) := by decide +kernel
theorem dL_law_441 : decode cL_law 441 = .ok (.aload_n 1, 1) := by decide +kernel
theorem dL_law_442 : decode cL_law 442 = .ok (.aload_n 0, 1) := by decide +kernel
theorem dL_law_443 : decode cL_law 443 = .ok (.iload_n 3, 1) := by decide +kernel
theorem dL_law_444 : decode cL_law 444 = .ok (.iconst 1, 1) := by decide +kernel
theorem dL_law_445 : decode cL_law 445 = .ok (.iadd, 1) := by decide +kernel
theorem dL_law_446 : decode cL_law 446 = .ok (.iaload, 1) := by decide +kernel
theorem dL_law_447 : decode cL_law 447 = .ok (.aload_n 0, 1) := by decide +kernel
theorem dL_law_448 : decode cL_law 448 = .ok (.iload_n 3, 1) := by decide +kernel
theorem dL_law_449 : decode cL_law 449 = .ok (.iconst 2, 1) := by decide +kernel
theorem dL_law_450 : decode cL_law 450 = .ok (.iadd, 1) := by decide +kernel
theorem dL_law_451 : decode cL_law 451 = .ok (.iaload, 1) := by decide +kernel
theorem dL_law_452 : decode cL_law 452 = .ok (.invokevirtual 59, 3) := by decide +kernel
theorem dL_law_455 : decode cL_law 455 = .ok (.aload_n 2, 1) := by decide +kernel
theorem dL_law_456 : decode cL_law 456 = .ok (.aload_n 0, 1) := by decide +kernel
theorem dL_law_457 : decode cL_law 457 = .ok (.iload_n 3, 1) := by decide +kernel
theorem dL_law_458 : decode cL_law 458 = .ok (.iconst 1, 1) := by decide +kernel
theorem dL_law_459 : decode cL_law 459 = .ok (.iadd, 1) := by decide +kernel
theorem dL_law_460 : decode cL_law 460 = .ok (.iaload, 1) := by decide +kernel
theorem dL_law_461 : decode cL_law 461 = .ok (.aload_n 0, 1) := by decide +kernel
theorem dL_law_462 : decode cL_law 462 = .ok (.iload_n 3, 1) := by decide +kernel
theorem dL_law_463 : decode cL_law 463 = .ok (.iconst 2, 1) := by decide +kernel
theorem dL_law_464 : decode cL_law 464 = .ok (.iadd, 1) := by decide +kernel
theorem dL_law_465 : decode cL_law 465 = .ok (.iaload, 1) := by decide +kernel
theorem dL_law_466 : decode cL_law 466 = .ok (.invokevirtual 62, 3) := by decide +kernel
theorem dL_law_469 : decode cL_law 469 = .ok (.if_icmp .eq 354, 3) := by decide +kernel
theorem dL_law_472 : decode cL_law 472 = .ok (.iconst 0, 1) := by decide +kernel
theorem dL_law_473 : decode cL_law 473 = .ok (.ireturn, 1) := by decide +kernel
theorem dL_law_474 : decode cL_law 474 = .ok (.aload_n 1, 1) := by decide +kernel
theorem dL_law_475 : decode cL_law 475 = .ok (.aload_n 0, 1) := by decide +kernel
theorem dL_law_476 : decode cL_law 476 = .ok (.iload_n 3, 1) := by decide +kernel
theorem dL_law_477 : decode cL_law 477 = .ok (.iconst 1, 1) := by decide +kernel
theorem dL_law_478 : decode cL_law 478 = .ok (.iadd, 1) := by decide +kernel
theorem dL_law_479 : decode cL_law 479 = .ok (.iaload, 1) := by decide +kernel
theorem dL_law_480 : decode cL_law 480 = .ok (.aload_n 0, 1) := by decide +kernel
theorem dL_law_481 : decode cL_law 481 = .ok (.iload_n 3, 1) := by decide +kernel
theorem dL_law_482 : decode cL_law 482 = .ok (.iconst 2, 1) := by decide +kernel
theorem dL_law_483 : decode cL_law 483 = .ok (.iadd, 1) := by decide +kernel
theorem dL_law_484 : decode cL_law 484 = .ok (.iaload, 1) := by decide +kernel
theorem dL_law_485 : decode cL_law 485 = .ok (.aload_n 0, 1) := by decide +kernel
theorem dL_law_486 : decode cL_law 486 = .ok (.iload_n 3, 1) := by decide +kernel
theorem dL_law_487 : decode cL_law 487 = .ok (.iconst 3, 1) := by decide +kernel
theorem dL_law_488 : decode cL_law 488 = .ok (.iadd, 1) := by decide +kernel
theorem dL_law_489 : decode cL_law 489 = .ok (.iaload, 1) := by decide +kernel
theorem dL_law_490 : decode cL_law 490 = .ok (.invokevirtual 63, 3) := by decide +kernel
theorem dL_law_493 : decode cL_law 493 = .ok (.aload_n 2, 1) := by decide +kernel
theorem dL_law_494 : decode cL_law 494 = .ok (.aload_n 0, 1) := by decide +kernel
theorem dL_law_495 : decode cL_law 495 = .ok (.iload_n 3, 1) := by decide +kernel
theorem dL_law_496 : decode cL_law 496 = .ok (.iconst 1, 1) := by decide +kernel
theorem dL_law_497 : decode cL_law 497 = .ok (.iadd, 1) := by decide +kernel
theorem dL_law_498 : decode cL_law 498 = .ok (.iaload, 1) := by decide +kernel
theorem dL_law_499 : decode cL_law 499 = .ok (.aload_n 0, 1) := by decide +kernel
theorem dL_law_500 : decode cL_law 500 = .ok (.iload_n 3, 1) := by decide +kernel
theorem dL_law_501 : decode cL_law 501 = .ok (.iconst 2, 1) := by decide +kernel
theorem dL_law_502 : decode cL_law 502 = .ok (.iadd, 1) := by decide +kernel
theorem dL_law_503 : decode cL_law 503 = .ok (.iaload, 1) := by decide +kernel
theorem dL_law_504 : decode cL_law 504 = .ok (.aload_n 0, 1) := by decide +kernel
theorem dL_law_505 : decode cL_law 505 = .ok (.iload_n 3, 1) := by decide +kernel
theorem dL_law_506 : decode cL_law 506 = .ok (.iconst 3, 1) := by decide +kernel
theorem dL_law_507 : decode cL_law 507 = .ok (.iadd, 1) := by decide +kernel
theorem dL_law_508 : decode cL_law 508 = .ok (.iaload, 1) := by decide +kernel
theorem dL_law_509 : decode cL_law 509 = .ok (.invokevirtual 67, 3) := by decide +kernel
theorem dL_law_512 : decode cL_law 512 = .ok (.if_icmp .eq 311, 3) := by decide +kernel
theorem dL_law_515 : decode cL_law 515 = .ok (.iconst 0, 1) := by decide +kernel
theorem dL_law_516 : decode cL_law 516 = .ok (.ireturn, 1) := by decide +kernel
theorem dL_law_517 : decode cL_law 517 = .ok (.aload_n 1, 1) := by decide +kernel
theorem dL_law_518 : decode cL_law 518 = .ok (.aload_n 0, 1) := by decide +kernel
theorem dL_law_519 : decode cL_law 519 = .ok (.iload_n 3, 1) := by decide +kernel
theorem dL_law_520 : decode cL_law 520 = .ok (.iconst 1, 1) := by decide +kernel
theorem dL_law_521 : decode cL_law 521 = .ok (.iadd, 1) := by decide +kernel
theorem dL_law_522 : decode cL_law 522 = .ok (.iaload, 1) := by decide +kernel
theorem dL_law_523 : decode cL_law 523 = .ok (.aload_n 0, 1) := by decide +kernel
theorem dL_law_524 : decode cL_law 524 = .ok (.iload_n 3, 1) := by decide +kernel
theorem dL_law_525 : decode cL_law 525 = .ok (.iconst 2, 1) := by decide +kernel
theorem dL_law_526 : decode cL_law 526 = .ok (.iadd, 1) := by decide +kernel
theorem dL_law_527 : decode cL_law 527 = .ok (.iaload, 1) := by decide +kernel
theorem dL_law_528 : decode cL_law 528 = .ok (.invokevirtual 68, 3) := by decide +kernel
theorem dL_law_531 : decode cL_law 531 = .ok (.aload_n 2, 1) := by decide +kernel
theorem dL_law_532 : decode cL_law 532 = .ok (.aload_n 0, 1) := by decide +kernel
theorem dL_law_533 : decode cL_law 533 = .ok (.iload_n 3, 1) := by decide +kernel
theorem dL_law_534 : decode cL_law 534 = .ok (.iconst 1, 1) := by decide +kernel
theorem dL_law_535 : decode cL_law 535 = .ok (.iadd, 1) := by decide +kernel
theorem dL_law_536 : decode cL_law 536 = .ok (.iaload, 1) := by decide +kernel
theorem dL_law_537 : decode cL_law 537 = .ok (.aload_n 0, 1) := by decide +kernel
theorem dL_law_538 : decode cL_law 538 = .ok (.iload_n 3, 1) := by decide +kernel
theorem dL_law_539 : decode cL_law 539 = .ok (.iconst 2, 1) := by decide +kernel
theorem dL_law_540 : decode cL_law 540 = .ok (.iadd, 1) := by decide +kernel
theorem dL_law_541 : decode cL_law 541 = .ok (.iaload, 1) := by decide +kernel
theorem dL_law_542 : decode cL_law 542 = .ok (.invokevirtual 71, 3) := by decide +kernel
theorem dL_law_545 : decode cL_law 545 = .ok (.if_icmp .eq 278, 3) := by decide +kernel
theorem dL_law_548 : decode cL_law 548 = .ok (.iconst 0, 1) := by decide +kernel
theorem dL_law_549 : decode cL_law 549 = .ok (.ireturn, 1) := by decide +kernel
theorem dL_law_550 : decode cL_law 550 = .ok (.aload_n 1, 1) := by decide +kernel
theorem dL_law_551 : decode cL_law 551 = .ok (.aload_n 0, 1) := by decide +kernel
theorem dL_law_552 : decode cL_law 552 = .ok (.iload_n 3, 1) := by decide +kernel
theorem dL_law_553 : decode cL_law 553 = .ok (.iconst 1, 1) := by decide +kernel
theorem dL_law_554 : decode cL_law 554 = .ok (.iadd, 1) := by decide +kernel
theorem dL_law_555 : decode cL_law 555 = .ok (.iaload, 1) := by decide +kernel
theorem dL_law_556 : decode cL_law 556 = .ok (.aload_n 0, 1) := by decide +kernel
theorem dL_law_557 : decode cL_law 557 = .ok (.iload_n 3, 1) := by decide +kernel
theorem dL_law_558 : decode cL_law 558 = .ok (.iconst 2, 1) := by decide +kernel
theorem dL_law_559 : decode cL_law 559 = .ok (.iadd, 1) := by decide +kernel
theorem dL_law_560 : decode cL_law 560 = .ok (.iaload, 1) := by decide +kernel
theorem dL_law_561 : decode cL_law 561 = .ok (.aload_n 0, 1) := by decide +kernel
theorem dL_law_562 : decode cL_law 562 = .ok (.iload_n 3, 1) := by decide +kernel
theorem dL_law_563 : decode cL_law 563 = .ok (.iconst 3, 1) := by decide +kernel
theorem dL_law_564 : decode cL_law 564 = .ok (.iadd, 1) := by decide +kernel
theorem dL_law_565 : decode cL_law 565 = .ok (.iaload, 1) := by decide +kernel
theorem dL_law_566 : decode cL_law 566 = .ok (.invokevirtual 72, 3) := by decide +kernel
theorem dL_law_569 : decode cL_law 569 = .ok (.aload_n 2, 1) := by decide +kernel
theorem dL_law_570 : decode cL_law 570 = .ok (.aload_n 0, 1) := by decide +kernel
theorem dL_law_571 : decode cL_law 571 = .ok (.iload_n 3, 1) := by decide +kernel
theorem dL_law_572 : decode cL_law 572 = .ok (.iconst 1, 1) := by decide +kernel
theorem dL_law_573 : decode cL_law 573 = .ok (.iadd, 1) := by decide +kernel
theorem dL_law_574 : decode cL_law 574 = .ok (.iaload, 1) := by decide +kernel
theorem dL_law_575 : decode cL_law 575 = .ok (.aload_n 0, 1) := by decide +kernel
theorem dL_law_576 : decode cL_law 576 = .ok (.iload_n 3, 1) := by decide +kernel
theorem dL_law_577 : decode cL_law 577 = .ok (.iconst 2, 1) := by decide +kernel
theorem dL_law_578 : decode cL_law 578 = .ok (.iadd, 1) := by decide +kernel
theorem dL_law_579 : decode cL_law 579 = .ok (.iaload, 1) := by decide +kernel
theorem dL_law_580 : decode cL_law 580 = .ok (.aload_n 0, 1) := by decide +kernel
theorem dL_law_581 : decode cL_law 581 = .ok (.iload_n 3, 1) := by decide +kernel
theorem dL_law_582 : decode cL_law 582 = .ok (.iconst 3, 1) := by decide +kernel
theorem dL_law_583 : decode cL_law 583 = .ok (.iadd, 1) := by decide +kernel
theorem dL_law_584 : decode cL_law 584 = .ok (.iaload, 1) := by decide +kernel
theorem dL_law_585 : decode cL_law 585 = .ok (.invokevirtual 75, 3) := by decide +kernel
theorem dL_law_588 : decode cL_law 588 = .ok (.if_icmp .eq 235, 3) := by decide +kernel
theorem dL_law_591 : decode cL_law 591 = .ok (.iconst 0, 1) := by decide +kernel
theorem dL_law_592 : decode cL_law 592 = .ok (.ireturn, 1) := by decide +kernel
theorem dL_law_593 : decode cL_law 593 = .ok (.aload_n 1, 1) := by decide +kernel
theorem dL_law_594 : decode cL_law 594 = .ok (.aload_n 0, 1) := by decide +kernel
theorem dL_law_595 : decode cL_law 595 = .ok (.iload_n 3, 1) := by decide +kernel
theorem dL_law_596 : decode cL_law 596 = .ok (.iconst 1, 1) := by decide +kernel
theorem dL_law_597 : decode cL_law 597 = .ok (.iadd, 1) := by decide +kernel
theorem dL_law_598 : decode cL_law 598 = .ok (.iaload, 1) := by decide +kernel
theorem dL_law_599 : decode cL_law 599 = .ok (.invokevirtual 76, 3) := by decide +kernel
theorem dL_law_602 : decode cL_law 602 = .ok (.aload_n 2, 1) := by decide +kernel
theorem dL_law_603 : decode cL_law 603 = .ok (.aload_n 0, 1) := by decide +kernel
theorem dL_law_604 : decode cL_law 604 = .ok (.iload_n 3, 1) := by decide +kernel
theorem dL_law_605 : decode cL_law 605 = .ok (.iconst 1, 1) := by decide +kernel
theorem dL_law_606 : decode cL_law 606 = .ok (.iadd, 1) := by decide +kernel
theorem dL_law_607 : decode cL_law 607 = .ok (.iaload, 1) := by decide +kernel
theorem dL_law_608 : decode cL_law 608 = .ok (.invokevirtual 79, 3) := by decide +kernel
theorem dL_law_611 : decode cL_law 611 = .ok (.if_icmp .eq 212, 3) := by decide +kernel
theorem dL_law_614 : decode cL_law 614 = .ok (.iconst 0, 1) := by decide +kernel
theorem dL_law_615 : decode cL_law 615 = .ok (.ireturn, 1) := by decide +kernel
theorem dL_law_616 : decode cL_law 616 = .ok (.aload_n 1, 1) := by decide +kernel
theorem dL_law_617 : decode cL_law 617 = .ok (.aload_n 0, 1) := by decide +kernel
theorem dL_law_618 : decode cL_law 618 = .ok (.iload_n 3, 1) := by decide +kernel
theorem dL_law_619 : decode cL_law 619 = .ok (.iconst 1, 1) := by decide +kernel
theorem dL_law_620 : decode cL_law 620 = .ok (.iadd, 1) := by decide +kernel
theorem dL_law_621 : decode cL_law 621 = .ok (.iaload, 1) := by decide +kernel
theorem dL_law_622 : decode cL_law 622 = .ok (.aload_n 0, 1) := by decide +kernel
theorem dL_law_623 : decode cL_law 623 = .ok (.iload_n 3, 1) := by decide +kernel
theorem dL_law_624 : decode cL_law 624 = .ok (.iconst 2, 1) := by decide +kernel
theorem dL_law_625 : decode cL_law 625 = .ok (.iadd, 1) := by decide +kernel
theorem dL_law_626 : decode cL_law 626 = .ok (.iaload, 1) := by decide +kernel
theorem dL_law_627 : decode cL_law 627 = .ok (.invokevirtual 80, 3) := by decide +kernel
theorem dL_law_630 : decode cL_law 630 = .ok (.aload_n 2, 1) := by decide +kernel
theorem dL_law_631 : decode cL_law 631 = .ok (.aload_n 0, 1) := by decide +kernel
theorem dL_law_632 : decode cL_law 632 = .ok (.iload_n 3, 1) := by decide +kernel
theorem dL_law_633 : decode cL_law 633 = .ok (.iconst 1, 1) := by decide +kernel
theorem dL_law_634 : decode cL_law 634 = .ok (.iadd, 1) := by decide +kernel
theorem dL_law_635 : decode cL_law 635 = .ok (.iaload, 1) := by decide +kernel
theorem dL_law_636 : decode cL_law 636 = .ok (.aload_n 0, 1) := by decide +kernel
theorem dL_law_637 : decode cL_law 637 = .ok (.iload_n 3, 1) := by decide +kernel
theorem dL_law_638 : decode cL_law 638 = .ok (.iconst 2, 1) := by decide +kernel
theorem dL_law_639 : decode cL_law 639 = .ok (.iadd, 1) := by decide +kernel
theorem dL_law_640 : decode cL_law 640 = .ok (.iaload, 1) := by decide +kernel
theorem dL_law_641 : decode cL_law 641 = .ok (.invokevirtual 83, 3) := by decide +kernel
theorem dL_law_644 : decode cL_law 644 = .ok (.if_icmp .eq 179, 3) := by decide +kernel
theorem dL_law_647 : decode cL_law 647 = .ok (.iconst 0, 1) := by decide +kernel
theorem dL_law_648 : decode cL_law 648 = .ok (.ireturn, 1) := by decide +kernel
theorem dL_law_649 : decode cL_law 649 = .ok (.aload_n 1, 1) := by decide +kernel
theorem dL_law_650 : decode cL_law 650 = .ok (.aload_n 0, 1) := by decide +kernel
theorem dL_law_651 : decode cL_law 651 = .ok (.iload_n 3, 1) := by decide +kernel
theorem dL_law_652 : decode cL_law 652 = .ok (.iconst 1, 1) := by decide +kernel
theorem dL_law_653 : decode cL_law 653 = .ok (.iadd, 1) := by decide +kernel
theorem dL_law_654 : decode cL_law 654 = .ok (.iaload, 1) := by decide +kernel
theorem dL_law_655 : decode cL_law 655 = .ok (.invokevirtual 84, 3) := by decide +kernel
theorem dL_law_658 : decode cL_law 658 = .ok (.aload_n 2, 1) := by decide +kernel
theorem dL_law_659 : decode cL_law 659 = .ok (.aload_n 0, 1) := by decide +kernel
theorem dL_law_660 : decode cL_law 660 = .ok (.iload_n 3, 1) := by decide +kernel
theorem dL_law_661 : decode cL_law 661 = .ok (.iconst 1, 1) := by decide +kernel
theorem dL_law_662 : decode cL_law 662 = .ok (.iadd, 1) := by decide +kernel
theorem dL_law_663 : decode cL_law 663 = .ok (.iaload, 1) := by decide +kernel
theorem dL_law_664 : decode cL_law 664 = .ok (.invokevirtual 87, 3) := by decide +kernel
theorem dL_law_667 : decode cL_law 667 = .ok (.if_icmp .eq 156, 3) := by decide +kernel
theorem dL_law_670 : decode cL_law 670 = .ok (.iconst 0, 1) := by decide +kernel
theorem dL_law_671 : decode cL_law 671 = .ok (.ireturn, 1) := by decide +kernel
theorem dL_law_672 : decode cL_law 672 = .ok (.aload_n 1, 1) := by decide +kernel
theorem dL_law_673 : decode cL_law 673 = .ok (.aload_n 0, 1) := by decide +kernel
theorem dL_law_674 : decode cL_law 674 = .ok (.iload_n 3, 1) := by decide +kernel
theorem dL_law_675 : decode cL_law 675 = .ok (.iconst 1, 1) := by decide +kernel
theorem dL_law_676 : decode cL_law 676 = .ok (.iadd, 1) := by decide +kernel
theorem dL_law_677 : decode cL_law 677 = .ok (.iaload, 1) := by decide +kernel
theorem dL_law_678 : decode cL_law 678 = .ok (.i2l, 1) := by decide +kernel
theorem dL_law_679 : decode cL_law 679 = .ok (.bipush 32, 2) := by decide +kernel
theorem dL_law_681 : decode cL_law 681 = .ok (.lshl, 1) := by decide +kernel
theorem dL_law_682 : decode cL_law 682 = .ok (.aload_n 0, 1) := by decide +kernel
theorem dL_law_683 : decode cL_law 683 = .ok (.iload_n 3, 1) := by decide +kernel
theorem dL_law_684 : decode cL_law 684 = .ok (.iconst 2, 1) := by decide +kernel
theorem dL_law_685 : decode cL_law 685 = .ok (.iadd, 1) := by decide +kernel
theorem dL_law_686 : decode cL_law 686 = .ok (.iaload, 1) := by decide +kernel
theorem dL_law_687 : decode cL_law 687 = .ok (.i2l, 1) := by decide +kernel
theorem dL_law_688 : decode cL_law 688 = .ok (.ldc2_w 88, 3) := by decide +kernel
theorem dL_law_691 : decode cL_law 691 = .ok (.land, 1) := by decide +kernel
theorem dL_law_692 : decode cL_law 692 = .ok (.lor, 1) := by decide +kernel
theorem dL_law_693 : decode cL_law 693 = .ok (.invokevirtual 90, 3) := by decide +kernel
theorem dL_law_696 : decode cL_law 696 = .ok (.aload_n 2, 1) := by decide +kernel
theorem dL_law_697 : decode cL_law 697 = .ok (.aload_n 0, 1) := by decide +kernel
theorem dL_law_698 : decode cL_law 698 = .ok (.iload_n 3, 1) := by decide +kernel
theorem dL_law_699 : decode cL_law 699 = .ok (.iconst 1, 1) := by decide +kernel
theorem dL_law_700 : decode cL_law 700 = .ok (.iadd, 1) := by decide +kernel
theorem dL_law_701 : decode cL_law 701 = .ok (.iaload, 1) := by decide +kernel
theorem dL_law_702 : decode cL_law 702 = .ok (.i2l, 1) := by decide +kernel
theorem dL_law_703 : decode cL_law 703 = .ok (.bipush 32, 2) := by decide +kernel
theorem dL_law_705 : decode cL_law 705 = .ok (.lshl, 1) := by decide +kernel
theorem dL_law_706 : decode cL_law 706 = .ok (.aload_n 0, 1) := by decide +kernel
theorem dL_law_707 : decode cL_law 707 = .ok (.iload_n 3, 1) := by decide +kernel
theorem dL_law_708 : decode cL_law 708 = .ok (.iconst 2, 1) := by decide +kernel
theorem dL_law_709 : decode cL_law 709 = .ok (.iadd, 1) := by decide +kernel
theorem dL_law_710 : decode cL_law 710 = .ok (.iaload, 1) := by decide +kernel
theorem dL_law_711 : decode cL_law 711 = .ok (.i2l, 1) := by decide +kernel
theorem dL_law_712 : decode cL_law 712 = .ok (.ldc2_w 88, 3) := by decide +kernel
theorem dL_law_715 : decode cL_law 715 = .ok (.land, 1) := by decide +kernel
theorem dL_law_716 : decode cL_law 716 = .ok (.lor, 1) := by decide +kernel
theorem dL_law_717 : decode cL_law 717 = .ok (.invokevirtual 94, 3) := by decide +kernel
theorem dL_law_720 : decode cL_law 720 = .ok (.if_icmp .eq 103, 3) := by decide +kernel
theorem dL_law_723 : decode cL_law 723 = .ok (.iconst 0, 1) := by decide +kernel
theorem dL_law_724 : decode cL_law 724 = .ok (.ireturn, 1) := by decide +kernel
theorem dL_law_725 : decode cL_law 725 = .ok (.aload_n 1, 1) := by decide +kernel
theorem dL_law_726 : decode cL_law 726 = .ok (.invokevirtual 95, 3) := by decide +kernel
theorem dL_law_729 : decode cL_law 729 = .ok (.aload_n 2, 1) := by decide +kernel
theorem dL_law_730 : decode cL_law 730 = .ok (.invokevirtual 99, 3) := by decide +kernel
theorem dL_law_733 : decode cL_law 733 = .ok (.if_icmp .eq 90, 3) := by decide +kernel
theorem dL_law_736 : decode cL_law 736 = .ok (.iconst 0, 1) := by decide +kernel
theorem dL_law_737 : decode cL_law 737 = .ok (.ireturn, 1) := by decide +kernel
theorem dL_law_738 : decode cL_law 738 = .ok (.aload_n 1, 1) := by decide +kernel
theorem dL_law_739 : decode cL_law 739 = .ok (.invokevirtual 100, 3) := by decide +kernel
theorem dL_law_742 : decode cL_law 742 = .ok (.aload_n 2, 1) := by decide +kernel
theorem dL_law_743 : decode cL_law 743 = .ok (.invokevirtual 103, 3) := by decide +kernel
theorem dL_law_746 : decode cL_law 746 = .ok (.if_icmp .eq 77, 3) := by decide +kernel
theorem dL_law_749 : decode cL_law 749 = .ok (.iconst 0, 1) := by decide +kernel
theorem dL_law_750 : decode cL_law 750 = .ok (.ireturn, 1) := by decide +kernel
theorem dL_law_751 : decode cL_law 751 = .ok (.aload_n 1, 1) := by decide +kernel
theorem dL_law_752 : decode cL_law 752 = .ok (.invokevirtual 104, 3) := by decide +kernel
theorem dL_law_755 : decode cL_law 755 = .ok (.aload_n 2, 1) := by decide +kernel
theorem dL_law_756 : decode cL_law 756 = .ok (.invokevirtual 107, 3) := by decide +kernel
theorem dL_law_759 : decode cL_law 759 = .ok (.if_icmp .eq 64, 3) := by decide +kernel
theorem dL_law_762 : decode cL_law 762 = .ok (.iconst 0, 1) := by decide +kernel
theorem dL_law_763 : decode cL_law 763 = .ok (.ireturn, 1) := by decide +kernel
theorem dL_law_764 : decode cL_law 764 = .ok (.aload_n 1, 1) := by decide +kernel
theorem dL_law_765 : decode cL_law 765 = .ok (.invokevirtual 108, 3) := by decide +kernel
theorem dL_law_768 : decode cL_law 768 = .ok (.aload_n 2, 1) := by decide +kernel
theorem dL_law_769 : decode cL_law 769 = .ok (.invokevirtual 111, 3) := by decide +kernel
theorem dL_law_772 : decode cL_law 772 = .ok (.if_icmp .eq 51, 3) := by decide +kernel
theorem dL_law_775 : decode cL_law 775 = .ok (.iconst 0, 1) := by decide +kernel
theorem dL_law_776 : decode cL_law 776 = .ok (.ireturn, 1) := by decide +kernel
theorem dL_law_777 : decode cL_law 777 = .ok (.aload_n 1, 1) := by decide +kernel
theorem dL_law_778 : decode cL_law 778 = .ok (.aload_n 0, 1) := by decide +kernel
theorem dL_law_779 : decode cL_law 779 = .ok (.iload_n 3, 1) := by decide +kernel
theorem dL_law_780 : decode cL_law 780 = .ok (.iconst 1, 1) := by decide +kernel
theorem dL_law_781 : decode cL_law 781 = .ok (.iadd, 1) := by decide +kernel
theorem dL_law_782 : decode cL_law 782 = .ok (.iaload, 1) := by decide +kernel
theorem dL_law_783 : decode cL_law 783 = .ok (.invokevirtual 112, 3) := by decide +kernel
theorem dL_law_786 : decode cL_law 786 = .ok (.aload_n 2, 1) := by decide +kernel
theorem dL_law_787 : decode cL_law 787 = .ok (.aload_n 0, 1) := by decide +kernel
theorem dL_law_788 : decode cL_law 788 = .ok (.iload_n 3, 1) := by decide +kernel
theorem dL_law_789 : decode cL_law 789 = .ok (.iconst 1, 1) := by decide +kernel
theorem dL_law_790 : decode cL_law 790 = .ok (.iadd, 1) := by decide +kernel
theorem dL_law_791 : decode cL_law 791 = .ok (.iaload, 1) := by decide +kernel
theorem dL_law_792 : decode cL_law 792 = .ok (.invokevirtual 115, 3) := by decide +kernel
theorem dL_law_795 : decode cL_law 795 = .ok (.if_icmp .eq 28, 3) := by decide +kernel
theorem dL_law_798 : decode cL_law 798 = .ok (.iconst 0, 1) := by decide +kernel
theorem dL_law_799 : decode cL_law 799 = .ok (.ireturn, 1) := by decide +kernel
theorem dL_law_800 : decode cL_law 800 = .ok (.aload_n 1, 1) := by decide +kernel
theorem dL_law_801 : decode cL_law 801 = .ok (.aload_n 0, 1) := by decide +kernel
theorem dL_law_802 : decode cL_law 802 = .ok (.iload_n 3, 1) := by decide +kernel
theorem dL_law_803 : decode cL_law 803 = .ok (.iconst 1, 1) := by decide +kernel
theorem dL_law_804 : decode cL_law 804 = .ok (.iadd, 1) := by decide +kernel
theorem dL_law_805 : decode cL_law 805 = .ok (.iaload, 1) := by decide +kernel
theorem dL_law_806 : decode cL_law 806 = .ok (.invokevirtual 116, 3) := by decide +kernel
theorem dL_law_809 : decode cL_law 809 = .ok (.aload_n 2, 1) := by decide +kernel
theorem dL_law_810 : decode cL_law 810 = .ok (.aload_n 0, 1) := by decide +kernel
theorem dL_law_811 : decode cL_law 811 = .ok (.iload_n 3, 1) := by decide +kernel
theorem dL_law_812 : decode cL_law 812 = .ok (.iconst 1, 1) := by decide +kernel
theorem dL_law_813 : decode cL_law 813 = .ok (.iadd, 1) := by decide +kernel
theorem dL_law_814 : decode cL_law 814 = .ok (.iaload, 1) := by decide +kernel
theorem dL_law_815 : decode cL_law 815 = .ok (.invokevirtual 119, 3) := by decide +kernel
theorem dL_law_818 : decode cL_law 818 = .ok (.if_icmp .eq 5, 3) := by decide +kernel
theorem dL_law_821 : decode cL_law 821 = .ok (.iconst 0, 1) := by decide +kernel
theorem dL_law_822 : decode cL_law 822 = .ok (.ireturn, 1) := by decide +kernel
theorem dL_law_823 : decode cL_law 823 = .ok (.iinc 3 4, 3) := by decide +kernel
theorem dL_law_826 : decode cL_law 826 = .ok (.goto (-808), 3) := by decide +kernel
theorem dL_law_829 : decode cL_law 829 = .ok (.iconst 1, 1) := by decide +kernel
theorem dL_law_830 : decode cL_law 830 = .ok (.ireturn, 1) := by decide +kernel
end
section
theorem dX8_init_0 : decode cX8_init 0 = .ok (.aload_n 0, 1) := by decide +kernel
theorem dX8_init_1 : decode cX8_init 1 = .ok (.invokespecial 1, 3) := by decide +kernel
theorem dX8_init_4 : decode cX8_init 4 = .ok (.aload_n 0, 1) := by decide +kernel
theorem dX8_init_5 : decode cX8_init 5 = .ok (.sipush 844, 3) := by decide +kernel
theorem dX8_init_8 : decode cX8_init 8 = .ok (.newarray .int, 2) := by decide +kernel
theorem dX8_init_10 : decode cX8_init 10 = .ok (.putfield 7, 3) := by decide +kernel
theorem dX8_init_13 : decode cX8_init 13 = .ok (.aload_n 0, 1) := by decide +kernel
theorem dX8_init_14 : decode cX8_init 14 = .ok (.sipush 5064, 3) := by decide +kernel
theorem dX8_init_17 : decode cX8_init 17 = .ok (.newarray .int, 2) := by decide +kernel
theorem dX8_init_19 : decode cX8_init 19 = .ok (.putfield 13, 3) := by decide +kernel
theorem dX8_init_22 : decode cX8_init 22 = .ok (.aload_n 0, 1) := by decide +kernel
theorem dX8_init_23 : decode cX8_init 23 = .ok (.sipush 1688, 3) := by decide +kernel
theorem dX8_init_26 : decode cX8_init 26 = .ok (.newarray .int, 2) := by decide +kernel
theorem dX8_init_28 : decode cX8_init 28 = .ok (.putfield 16, 3) := by decide +kernel
theorem dX8_init_31 : decode cX8_init 31 = .ok (.aload_n 0, 1) := by decide +kernel
theorem dX8_init_32 : decode cX8_init 32 = .ok (.iconst 2, 1) := by decide +kernel
theorem dX8_init_33 : decode cX8_init 33 = .ok (.newarray .int, 2) := by decide +kernel
theorem dX8_init_35 : decode cX8_init 35 = .ok (.putfield 19, 3) := by decide +kernel
theorem dX8_init_38 : decode cX8_init 38 = .ok (.aload_n 0, 1) := by decide +kernel
theorem dX8_init_39 : decode cX8_init 39 = .ok (.bipush 60, 2) := by decide +kernel
theorem dX8_init_41 : decode cX8_init 41 = .ok (.newarray .int, 2) := by decide +kernel
theorem dX8_init_43 : decode cX8_init 43 = .ok (.putfield 22, 3) := by decide +kernel
theorem dX8_init_46 : decode cX8_init 46 = .ok (.aload_n 0, 1) := by decide +kernel
theorem dX8_init_47 : decode cX8_init 47 = .ok (.bipush 120, 2) := by decide +kernel
theorem dX8_init_49 : decode cX8_init 49 = .ok (.newarray .int, 2) := by decide +kernel
theorem dX8_init_51 : decode cX8_init 51 = .ok (.putfield 25, 3) := by decide +kernel
theorem dX8_init_54 : decode cX8_init 54 = .ok (.aload_n 0, 1) := by decide +kernel
theorem dX8_init_55 : decode cX8_init 55 = .ok (.getfield 7, 3) := by decide +kernel
theorem dX8_init_58 : decode cX8_init 58 = .ok (.iconst 0, 1) := by decide +kernel
theorem dX8_init_59 : decode cX8_init 59 = .ok (.bipush 8, 2) := by decide +kernel
theorem dX8_init_61 : decode cX8_init 61 = .ok (.iastore, 1) := by decide +kernel
theorem dX8_init_62 : decode cX8_init 62 = .ok (.return_, 1) := by decide +kernel
theorem dX8_moves_0 : decode cX8_moves 0 = .ok (.iconst 0, 1) := by decide +kernel
theorem dX8_moves_1 : decode cX8_moves 1 = .ok (.istore 4, 2) := by decide +kernel
theorem dX8_moves_3 : decode cX8_moves 3 = .ok (.iload 4, 2) := by decide +kernel
theorem dX8_moves_5 : decode cX8_moves 5 = .ok (.sipush 844, 3) := by decide +kernel
theorem dX8_moves_8 : decode cX8_moves 8 = .ok (.if_icmp .ge 21, 3) := by decide +kernel
theorem dX8_moves_11 : decode cX8_moves 11 = .ok (.aload_n 2, 1) := by decide +kernel
theorem dX8_moves_12 : decode cX8_moves 12 = .ok (.iload_n 3, 1) := by decide +kernel
theorem dX8_moves_13 : decode cX8_moves 13 = .ok (.iload 4, 2) := by decide +kernel
theorem dX8_moves_15 : decode cX8_moves 15 = .ok (.iadd, 1) := by decide +kernel
theorem dX8_moves_16 : decode cX8_moves 16 = .ok (.aload_n 0, 1) := by decide +kernel
theorem dX8_moves_17 : decode cX8_moves 17 = .ok (.iload_n 1, 1) := by decide +kernel
theorem dX8_moves_18 : decode cX8_moves 18 = .ok (.iload 4, 2) := by decide +kernel
theorem dX8_moves_20 : decode cX8_moves 20 = .ok (.iadd, 1) := by decide +kernel
theorem dX8_moves_21 : decode cX8_moves 21 = .ok (.iaload, 1) := by decide +kernel
theorem dX8_moves_22 : decode cX8_moves 22 = .ok (.iastore, 1) := by decide +kernel
theorem dX8_moves_23 : decode cX8_moves 23 = .ok (.iinc 4 1, 3) := by decide +kernel
theorem dX8_moves_26 : decode cX8_moves 26 = .ok (.goto (-23), 3) := by decide +kernel
theorem dX8_moves_29 : decode cX8_moves 29 = .ok (.return_, 1) := by decide +kernel
theorem dX8_within_0 : decode cX8_within 0 = .ok (.iload_n 0, 1) := by decide +kernel
theorem dX8_within_1 : decode cX8_within 1 = .ok (.iload_n 1, 1) := by decide +kernel
theorem dX8_within_2 : decode cX8_within 2 = .ok (.if_icmp .lt 12, 3) := by decide +kernel
theorem dX8_within_5 : decode cX8_within 5 = .ok (.iload_n 0, 1) := by decide +kernel
theorem dX8_within_6 : decode cX8_within 6 = .ok (.iload_n 2, 1) := by decide +kernel
theorem dX8_within_7 : decode cX8_within 7 = .ok (.if_icmp .gt 7, 3) := by decide +kernel
theorem dX8_within_10 : decode cX8_within 10 = .ok (.iconst 1, 1) := by decide +kernel
theorem dX8_within_11 : decode cX8_within 11 = .ok (.goto 4, 3) := by decide +kernel
theorem dX8_within_14 : decode cX8_within 14 = .ok (.iconst 0, 1) := by decide +kernel
theorem dX8_within_15 : decode cX8_within 15 = .ok (.ireturn, 1) := by decide +kernel
theorem dX8_record_0 : decode cX8_record 0 = .ok (.aload_n 0, 1) := by decide +kernel
theorem dX8_record_1 : decode cX8_record 1 = .ok (.getfield 28, 3) := by decide +kernel
theorem dX8_record_4 : decode cX8_record 4 = .ok (.bipush 6, 2) := by decide +kernel
theorem dX8_record_6 : decode cX8_record 6 = .ok (.if_icmp .ne 44, 3) := by decide +kernel
theorem dX8_record_9 : decode cX8_record 9 = .ok (.iconst 0, 1) := by decide +kernel
theorem dX8_record_10 : decode cX8_record 10 = .ok (.istore_n 1, 1) := by decide +kernel
theorem dX8_record_11 : decode cX8_record 11 = .ok (.iload_n 1, 1) := by decide +kernel
theorem dX8_record_12 : decode cX8_record 12 = .ok (.sipush 4220, 3) := by decide +kernel
theorem dX8_record_15 : decode cX8_record 15 = .ok (.if_icmp .ge 25, 3) := by decide +kernel
theorem dX8_record_18 : decode cX8_record 18 = .ok (.aload_n 0, 1) := by decide +kernel
theorem dX8_record_19 : decode cX8_record 19 = .ok (.getfield 13, 3) := by decide +kernel
theorem dX8_record_22 : decode cX8_record 22 = .ok (.iload_n 1, 1) := by decide +kernel
theorem dX8_record_23 : decode cX8_record 23 = .ok (.aload_n 0, 1) := by decide +kernel
theorem dX8_record_24 : decode cX8_record 24 = .ok (.getfield 13, 3) := by decide +kernel
theorem dX8_record_27 : decode cX8_record 27 = .ok (.iload_n 1, 1) := by decide +kernel
theorem dX8_record_28 : decode cX8_record 28 = .ok (.sipush 844, 3) := by decide +kernel
theorem dX8_record_31 : decode cX8_record 31 = .ok (.iadd, 1) := by decide +kernel
theorem dX8_record_32 : decode cX8_record 32 = .ok (.iaload, 1) := by decide +kernel
theorem dX8_record_33 : decode cX8_record 33 = .ok (.iastore, 1) := by decide +kernel
theorem dX8_record_34 : decode cX8_record 34 = .ok (.iinc 1 1, 3) := by decide +kernel
theorem dX8_record_37 : decode cX8_record 37 = .ok (.goto (-26), 3) := by decide +kernel
theorem dX8_record_40 : decode cX8_record 40 = .ok (.aload_n 0, 1) := by decide +kernel
theorem dX8_record_41 : decode cX8_record 41 = .ok (.dup, 1) := by decide +kernel
theorem dX8_record_42 : decode cX8_record 42 = .ok (.getfield 28, 3) := by decide +kernel
theorem dX8_record_45 : decode cX8_record 45 = .ok (.iconst 1, 1) := by decide +kernel
theorem dX8_record_46 : decode cX8_record 46 = .ok (.isub, 1) := by decide +kernel
theorem dX8_record_47 : decode cX8_record 47 = .ok (.putfield 28, 3) := by decide +kernel
theorem dX8_record_50 : decode cX8_record 50 = .ok (.aload_n 0, 1) := by decide +kernel
theorem dX8_record_51 : decode cX8_record 51 = .ok (.getfield 7, 3) := by decide +kernel
theorem dX8_record_54 : decode cX8_record 54 = .ok (.iconst 0, 1) := by decide +kernel
theorem dX8_record_55 : decode cX8_record 55 = .ok (.aload_n 0, 1) := by decide +kernel
theorem dX8_record_56 : decode cX8_record 56 = .ok (.getfield 13, 3) := by decide +kernel
theorem dX8_record_59 : decode cX8_record 59 = .ok (.aload_n 0, 1) := by decide +kernel
theorem dX8_record_60 : decode cX8_record 60 = .ok (.getfield 28, 3) := by decide +kernel
theorem dX8_record_63 : decode cX8_record 63 = .ok (.sipush 844, 3) := by decide +kernel
theorem dX8_record_66 : decode cX8_record 66 = .ok (.imul, 1) := by decide +kernel
theorem dX8_record_67 : decode cX8_record 67 = .ok (.invokestatic 32, 3) := by decide +kernel
theorem dX8_record_70 : decode cX8_record 70 = .ok (.aload_n 0, 1) := by decide +kernel
theorem dX8_record_71 : decode cX8_record 71 = .ok (.dup, 1) := by decide +kernel
theorem dX8_record_72 : decode cX8_record 72 = .ok (.getfield 28, 3) := by decide +kernel
theorem dX8_record_75 : decode cX8_record 75 = .ok (.iconst 1, 1) := by decide +kernel
theorem dX8_record_76 : decode cX8_record 76 = .ok (.iadd, 1) := by decide +kernel
theorem dX8_record_77 : decode cX8_record 77 = .ok (.putfield 28, 3) := by decide +kernel
theorem dX8_record_80 : decode cX8_record 80 = .ok (.return_, 1) := by decide +kernel
theorem dX8_keyPart_0 : decode cX8_keyPart 0 = .ok (.aload_n 0, 1) := by decide +kernel
theorem dX8_keyPart_1 : decode cX8_keyPart 1 = .ok (.getfield 7, 3) := by decide +kernel
theorem dX8_keyPart_4 : decode cX8_keyPart 4 = .ok (.iconst 4, 1) := by decide +kernel
theorem dX8_keyPart_5 : decode cX8_keyPart 5 = .ok (.iconst 4, 1) := by decide +kernel
theorem dX8_keyPart_6 : decode cX8_keyPart 6 = .ok (.iload_n 1, 1) := by decide +kernel
theorem dX8_keyPart_7 : decode cX8_keyPart 7 = .ok (.imul, 1) := by decide +kernel
theorem dX8_keyPart_8 : decode cX8_keyPart 8 = .ok (.iadd, 1) := by decide +kernel
theorem dX8_keyPart_9 : decode cX8_keyPart 9 = .ok (.iload_n 2, 1) := by decide +kernel
theorem dX8_keyPart_10 : decode cX8_keyPart 10 = .ok (.iadd, 1) := by decide +kernel
theorem dX8_keyPart_11 : decode cX8_keyPart 11 = .ok (.iaload, 1) := by decide +kernel
theorem dX8_keyPart_12 : decode cX8_keyPart 12 = .ok (.ireturn, 1) := by decide +kernel
theorem dX8_setKey_0 : decode cX8_setKey 0 = .ok (.aload_n 0, 1) := by decide +kernel
theorem dX8_setKey_1 : decode cX8_setKey 1 = .ok (.getfield 7, 3) := by decide +kernel
theorem dX8_setKey_4 : decode cX8_setKey 4 = .ok (.iconst 4, 1) := by decide +kernel
theorem dX8_setKey_5 : decode cX8_setKey 5 = .ok (.iconst 4, 1) := by decide +kernel
theorem dX8_setKey_6 : decode cX8_setKey 6 = .ok (.iload_n 1, 1) := by decide +kernel
theorem dX8_setKey_7 : decode cX8_setKey 7 = .ok (.imul, 1) := by decide +kernel
theorem dX8_setKey_8 : decode cX8_setKey 8 = .ok (.iadd, 1) := by decide +kernel
theorem dX8_setKey_9 : decode cX8_setKey 9 = .ok (.iload_n 2, 1) := by decide +kernel
theorem dX8_setKey_10 : decode cX8_setKey 10 = .ok (.iadd, 1) := by decide +kernel
theorem dX8_setKey_11 : decode cX8_setKey 11 = .ok (.iload_n 3, 1) := by decide +kernel
theorem dX8_setKey_12 : decode cX8_setKey 12 = .ok (.iastore, 1) := by decide +kernel
theorem dX8_setKey_13 : decode cX8_setKey 13 = .ok (.return_, 1) := by decide +kernel
theorem dX8_boxPart_0 : decode cX8_boxPart 0 = .ok (.aload_n 0, 1) := by decide +kernel
theorem dX8_boxPart_1 : decode cX8_boxPart 1 = .ok (.getfield 7, 3) := by decide +kernel
theorem dX8_boxPart_4 : decode cX8_boxPart 4 = .ok (.bipush 84, 2) := by decide +kernel
theorem dX8_boxPart_6 : decode cX8_boxPart 6 = .ok (.iconst 2, 1) := by decide +kernel
theorem dX8_boxPart_7 : decode cX8_boxPart 7 = .ok (.iload_n 1, 1) := by decide +kernel
theorem dX8_boxPart_8 : decode cX8_boxPart 8 = .ok (.imul, 1) := by decide +kernel
theorem dX8_boxPart_9 : decode cX8_boxPart 9 = .ok (.iadd, 1) := by decide +kernel
theorem dX8_boxPart_10 : decode cX8_boxPart 10 = .ok (.iload_n 2, 1) := by decide +kernel
theorem dX8_boxPart_11 : decode cX8_boxPart 11 = .ok (.iadd, 1) := by decide +kernel
theorem dX8_boxPart_12 : decode cX8_boxPart 12 = .ok (.iaload, 1) := by decide +kernel
theorem dX8_boxPart_13 : decode cX8_boxPart 13 = .ok (.ireturn, 1) := by decide +kernel
theorem dX8_setBox_0 : decode cX8_setBox 0 = .ok (.aload_n 0, 1) := by decide +kernel
theorem dX8_setBox_1 : decode cX8_setBox 1 = .ok (.getfield 7, 3) := by decide +kernel
theorem dX8_setBox_4 : decode cX8_setBox 4 = .ok (.bipush 84, 2) := by decide +kernel
theorem dX8_setBox_6 : decode cX8_setBox 6 = .ok (.iconst 2, 1) := by decide +kernel
theorem dX8_setBox_7 : decode cX8_setBox 7 = .ok (.iload_n 1, 1) := by decide +kernel
theorem dX8_setBox_8 : decode cX8_setBox 8 = .ok (.imul, 1) := by decide +kernel
theorem dX8_setBox_9 : decode cX8_setBox 9 = .ok (.iadd, 1) := by decide +kernel
theorem dX8_setBox_10 : decode cX8_setBox 10 = .ok (.iload_n 2, 1) := by decide +kernel
theorem dX8_setBox_11 : decode cX8_setBox 11 = .ok (.iadd, 1) := by decide +kernel
theorem dX8_setBox_12 : decode cX8_setBox 12 = .ok (.iload_n 3, 1) := by decide +kernel
theorem dX8_setBox_13 : decode cX8_setBox 13 = .ok (.iastore, 1) := by decide +kernel
theorem dX8_setBox_14 : decode cX8_setBox 14 = .ok (.return_, 1) := by decide +kernel
theorem dX8_wrapPart_0 : decode cX8_wrapPart 0 = .ok (.aload_n 0, 1) := by decide +kernel
theorem dX8_wrapPart_1 : decode cX8_wrapPart 1 = .ok (.getfield 7, 3) := by decide +kernel
theorem dX8_wrapPart_4 : decode cX8_wrapPart 4 = .ok (.bipush 124, 2) := by decide +kernel
theorem dX8_wrapPart_6 : decode cX8_wrapPart 6 = .ok (.bipush 6, 2) := by decide +kernel
theorem dX8_wrapPart_8 : decode cX8_wrapPart 8 = .ok (.iload_n 1, 1) := by decide +kernel
theorem dX8_wrapPart_9 : decode cX8_wrapPart 9 = .ok (.imul, 1) := by decide +kernel
theorem dX8_wrapPart_10 : decode cX8_wrapPart 10 = .ok (.iadd, 1) := by decide +kernel
theorem dX8_wrapPart_11 : decode cX8_wrapPart 11 = .ok (.iload_n 2, 1) := by decide +kernel
theorem dX8_wrapPart_12 : decode cX8_wrapPart 12 = .ok (.iadd, 1) := by decide +kernel
theorem dX8_wrapPart_13 : decode cX8_wrapPart 13 = .ok (.iaload, 1) := by decide +kernel
theorem dX8_wrapPart_14 : decode cX8_wrapPart 14 = .ok (.ireturn, 1) := by decide +kernel
theorem dX8_setWrap_0 : decode cX8_setWrap 0 = .ok (.aload_n 0, 1) := by decide +kernel
theorem dX8_setWrap_1 : decode cX8_setWrap 1 = .ok (.getfield 7, 3) := by decide +kernel
theorem dX8_setWrap_4 : decode cX8_setWrap 4 = .ok (.bipush 124, 2) := by decide +kernel
theorem dX8_setWrap_6 : decode cX8_setWrap 6 = .ok (.bipush 6, 2) := by decide +kernel
theorem dX8_setWrap_8 : decode cX8_setWrap 8 = .ok (.iload_n 1, 1) := by decide +kernel
theorem dX8_setWrap_9 : decode cX8_setWrap 9 = .ok (.imul, 1) := by decide +kernel
theorem dX8_setWrap_10 : decode cX8_setWrap 10 = .ok (.iadd, 1) := by decide +kernel
theorem dX8_setWrap_11 : decode cX8_setWrap 11 = .ok (.iload_n 2, 1) := by decide +kernel
theorem dX8_setWrap_12 : decode cX8_setWrap 12 = .ok (.iadd, 1) := by decide +kernel
theorem dX8_setWrap_13 : decode cX8_setWrap 13 = .ok (.iload_n 3, 1) := by decide +kernel
theorem dX8_setWrap_14 : decode cX8_setWrap 14 = .ok (.iastore, 1) := by decide +kernel
theorem dX8_setWrap_15 : decode cX8_setWrap 15 = .ok (.return_, 1) := by decide +kernel
theorem dX8_isKey_0 : decode cX8_isKey 0 = .ok (.iload_n 1, 1) := by decide +kernel
theorem dX8_isKey_1 : decode cX8_isKey 1 = .ok (.iconst 0, 1) := by decide +kernel
theorem dX8_isKey_2 : decode cX8_isKey 2 = .ok (.aload_n 0, 1) := by decide +kernel
theorem dX8_isKey_3 : decode cX8_isKey 3 = .ok (.getfield 7, 3) := by decide +kernel
theorem dX8_isKey_6 : decode cX8_isKey 6 = .ok (.iconst 1, 1) := by decide +kernel
theorem dX8_isKey_7 : decode cX8_isKey 7 = .ok (.iaload, 1) := by decide +kernel
theorem dX8_isKey_8 : decode cX8_isKey 8 = .ok (.iconst 1, 1) := by decide +kernel
theorem dX8_isKey_9 : decode cX8_isKey 9 = .ok (.isub, 1) := by decide +kernel
theorem dX8_isKey_10 : decode cX8_isKey 10 = .ok (.invokestatic 36, 3) := by decide +kernel
theorem dX8_isKey_13 : decode cX8_isKey 13 = .ok (.ireturn, 1) := by decide +kernel
theorem dX8_isLiveKey_0 : decode cX8_isLiveKey 0 = .ok (.aload_n 0, 1) := by decide +kernel
theorem dX8_isLiveKey_1 : decode cX8_isLiveKey 1 = .ok (.iload_n 1, 1) := by decide +kernel
theorem dX8_isLiveKey_2 : decode cX8_isLiveKey 2 = .ok (.invokevirtual 40, 3) := by decide +kernel
theorem dX8_isLiveKey_5 : decode cX8_isLiveKey 5 = .ok (.ifCond .eq 17, 3) := by decide +kernel
theorem dX8_isLiveKey_8 : decode cX8_isLiveKey 8 = .ok (.aload_n 0, 1) := by decide +kernel
theorem dX8_isLiveKey_9 : decode cX8_isLiveKey 9 = .ok (.iload_n 1, 1) := by decide +kernel
theorem dX8_isLiveKey_10 : decode cX8_isLiveKey 10 = .ok (.iconst 1, 1) := by decide +kernel
theorem dX8_isLiveKey_11 : decode cX8_isLiveKey 11 = .ok (.invokevirtual 44, 3) := by decide +kernel
theorem dX8_isLiveKey_14 : decode cX8_isLiveKey 14 = .ok (.iconst 1, 1) := by decide +kernel
theorem dX8_isLiveKey_15 : decode cX8_isLiveKey 15 = .ok (.if_icmp .ne 7, 3) := by decide +kernel
theorem dX8_isLiveKey_18 : decode cX8_isLiveKey 18 = .ok (.iconst 1, 1) := by decide +kernel
theorem dX8_isLiveKey_19 : decode cX8_isLiveKey 19 = .ok (.goto 4, 3) := by decide +kernel
theorem dX8_isLiveKey_22 : decode cX8_isLiveKey 22 = .ok (.iconst 0, 1) := by decide +kernel
theorem dX8_isLiveKey_23 : decode cX8_isLiveKey 23 = .ok (.ireturn, 1) := by decide +kernel
theorem dX8_isBox_0 : decode cX8_isBox 0 = .ok (.iload_n 1, 1) := by decide +kernel
theorem dX8_isBox_1 : decode cX8_isBox 1 = .ok (.iconst 0, 1) := by decide +kernel
theorem dX8_isBox_2 : decode cX8_isBox 2 = .ok (.aload_n 0, 1) := by decide +kernel
theorem dX8_isBox_3 : decode cX8_isBox 3 = .ok (.getfield 7, 3) := by decide +kernel
theorem dX8_isBox_6 : decode cX8_isBox 6 = .ok (.iconst 2, 1) := by decide +kernel
theorem dX8_isBox_7 : decode cX8_isBox 7 = .ok (.iaload, 1) := by decide +kernel
theorem dX8_isBox_8 : decode cX8_isBox 8 = .ok (.iconst 1, 1) := by decide +kernel
theorem dX8_isBox_9 : decode cX8_isBox 9 = .ok (.isub, 1) := by decide +kernel
theorem dX8_isBox_10 : decode cX8_isBox 10 = .ok (.invokestatic 36, 3) := by decide +kernel
theorem dX8_isBox_13 : decode cX8_isBox 13 = .ok (.ireturn, 1) := by decide +kernel
theorem dX8_isLiveBox_0 : decode cX8_isLiveBox 0 = .ok (.aload_n 0, 1) := by decide +kernel
theorem dX8_isLiveBox_1 : decode cX8_isLiveBox 1 = .ok (.iload_n 1, 1) := by decide +kernel
theorem dX8_isLiveBox_2 : decode cX8_isLiveBox 2 = .ok (.invokevirtual 48, 3) := by decide +kernel
theorem dX8_isLiveBox_5 : decode cX8_isLiveBox 5 = .ok (.ifCond .eq 17, 3) := by decide +kernel
theorem dX8_isLiveBox_8 : decode cX8_isLiveBox 8 = .ok (.aload_n 0, 1) := by decide +kernel
theorem dX8_isLiveBox_9 : decode cX8_isLiveBox 9 = .ok (.iload_n 1, 1) := by decide +kernel
theorem dX8_isLiveBox_10 : decode cX8_isLiveBox 10 = .ok (.iconst 1, 1) := by decide +kernel
theorem dX8_isLiveBox_11 : decode cX8_isLiveBox 11 = .ok (.invokevirtual 51, 3) := by decide +kernel
theorem dX8_isLiveBox_14 : decode cX8_isLiveBox 14 = .ok (.iconst 1, 1) := by decide +kernel
theorem dX8_isLiveBox_15 : decode cX8_isLiveBox 15 = .ok (.if_icmp .ne 7, 3) := by decide +kernel
theorem dX8_isLiveBox_18 : decode cX8_isLiveBox 18 = .ok (.iconst 1, 1) := by decide +kernel
theorem dX8_isLiveBox_19 : decode cX8_isLiveBox 19 = .ok (.goto 4, 3) := by decide +kernel
theorem dX8_isLiveBox_22 : decode cX8_isLiveBox 22 = .ok (.iconst 0, 1) := by decide +kernel
theorem dX8_isLiveBox_23 : decode cX8_isLiveBox 23 = .ok (.ireturn, 1) := by decide +kernel
theorem dX8_isRoot_0 : decode cX8_isRoot 0 = .ok (.aload_n 0, 1) := by decide +kernel
theorem dX8_isRoot_1 : decode cX8_isRoot 1 = .ok (.iload_n 1, 1) := by decide +kernel
theorem dX8_isRoot_2 : decode cX8_isRoot 2 = .ok (.iconst 0, 1) := by decide +kernel
theorem dX8_isRoot_3 : decode cX8_isRoot 3 = .ok (.invokevirtual 44, 3) := by decide +kernel
theorem dX8_isRoot_6 : decode cX8_isRoot 6 = .ok (.bipush (-6), 2) := by decide +kernel
theorem dX8_isRoot_8 : decode cX8_isRoot 8 = .ok (.if_icmp .ne 7, 3) := by decide +kernel
theorem dX8_isRoot_11 : decode cX8_isRoot 11 = .ok (.iconst 1, 1) := by decide +kernel
theorem dX8_isRoot_12 : decode cX8_isRoot 12 = .ok (.goto 4, 3) := by decide +kernel
theorem dX8_isRoot_15 : decode cX8_isRoot 15 = .ok (.iconst 0, 1) := by decide +kernel
theorem dX8_isRoot_16 : decode cX8_isRoot 16 = .ok (.ireturn, 1) := by decide +kernel
theorem dX8_canClose_0 : decode cX8_canClose 0 = .ok (.aload_n 0, 1) := by decide +kernel
theorem dX8_canClose_1 : decode cX8_canClose 1 = .ok (.iload_n 1, 1) := by decide +kernel
theorem dX8_canClose_2 : decode cX8_canClose 2 = .ok (.iconst 3, 1) := by decide +kernel
theorem dX8_canClose_3 : decode cX8_canClose 3 = .ok (.invokevirtual 44, 3) := by decide +kernel
theorem dX8_canClose_6 : decode cX8_canClose 6 = .ok (.aload_n 0, 1) := by decide +kernel
theorem dX8_canClose_7 : decode cX8_canClose 7 = .ok (.getfield 7, 3) := by decide +kernel
theorem dX8_canClose_10 : decode cX8_canClose 10 = .ok (.iconst 0, 1) := by decide +kernel
theorem dX8_canClose_11 : decode cX8_canClose 11 = .ok (.iaload, 1) := by decide +kernel
theorem dX8_canClose_12 : decode cX8_canClose 12 = .ok (.if_icmp .ge 7, 3) := by decide +kernel
theorem dX8_canClose_15 : decode cX8_canClose 15 = .ok (.iconst 1, 1) := by decide +kernel
theorem dX8_canClose_16 : decode cX8_canClose 16 = .ok (.goto 4, 3) := by decide +kernel
theorem dX8_canClose_19 : decode cX8_canClose 19 = .ok (.iconst 0, 1) := by decide +kernel
theorem dX8_canClose_20 : decode cX8_canClose 20 = .ok (.ireturn, 1) := by decide +kernel
theorem dX8_isUnder_0 : decode cX8_isUnder 0 = .ok (.iload_n 1, 1) := by decide +kernel
theorem dX8_isUnder_1 : decode cX8_isUnder 1 = .ok (.istore_n 3, 1) := by decide +kernel
theorem dX8_isUnder_2 : decode cX8_isUnder 2 = .ok (.iload_n 3, 1) := by decide +kernel
theorem dX8_isUnder_3 : decode cX8_isUnder 3 = .ok (.bipush (-6), 2) := by decide +kernel
theorem dX8_isUnder_5 : decode cX8_isUnder 5 = .ok (.if_icmp .eq 18, 3) := by decide +kernel
theorem dX8_isUnder_8 : decode cX8_isUnder 8 = .ok (.iload_n 3, 1) := by decide +kernel
theorem dX8_isUnder_9 : decode cX8_isUnder 9 = .ok (.iload_n 2, 1) := by decide +kernel
theorem dX8_isUnder_10 : decode cX8_isUnder 10 = .ok (.if_icmp .eq 13, 3) := by decide +kernel
theorem dX8_isUnder_13 : decode cX8_isUnder 13 = .ok (.aload_n 0, 1) := by decide +kernel
theorem dX8_isUnder_14 : decode cX8_isUnder 14 = .ok (.iload_n 3, 1) := by decide +kernel
theorem dX8_isUnder_15 : decode cX8_isUnder 15 = .ok (.iconst 0, 1) := by decide +kernel
theorem dX8_isUnder_16 : decode cX8_isUnder 16 = .ok (.invokevirtual 44, 3) := by decide +kernel
theorem dX8_isUnder_19 : decode cX8_isUnder 19 = .ok (.istore_n 3, 1) := by decide +kernel
theorem dX8_isUnder_20 : decode cX8_isUnder 20 = .ok (.goto (-18), 3) := by decide +kernel
theorem dX8_isUnder_23 : decode cX8_isUnder 23 = .ok (.iload_n 3, 1) := by decide +kernel
theorem dX8_isUnder_24 : decode cX8_isUnder 24 = .ok (.iload_n 2, 1) := by decide +kernel
theorem dX8_isUnder_25 : decode cX8_isUnder 25 = .ok (.if_icmp .ne 7, 3) := by decide +kernel
theorem dX8_isUnder_28 : decode cX8_isUnder 28 = .ok (.iconst 1, 1) := by decide +kernel
theorem dX8_isUnder_29 : decode cX8_isUnder 29 = .ok (.goto 4, 3) := by decide +kernel
theorem dX8_isUnder_32 : decode cX8_isUnder 32 = .ok (.iconst 0, 1) := by decide +kernel
theorem dX8_isUnder_33 : decode cX8_isUnder 33 = .ok (.ireturn, 1) := by decide +kernel
theorem dX8_above_0 : decode cX8_above 0 = .ok (.iconst 0, 1) := by decide +kernel
theorem dX8_above_1 : decode cX8_above 1 = .ok (.istore_n 2, 1) := by decide +kernel
theorem dX8_above_2 : decode cX8_above 2 = .ok (.aload_n 0, 1) := by decide +kernel
theorem dX8_above_3 : decode cX8_above 3 = .ok (.iload_n 1, 1) := by decide +kernel
theorem dX8_above_4 : decode cX8_above 4 = .ok (.iconst 0, 1) := by decide +kernel
theorem dX8_above_5 : decode cX8_above 5 = .ok (.invokevirtual 44, 3) := by decide +kernel
theorem dX8_above_8 : decode cX8_above 8 = .ok (.istore_n 3, 1) := by decide +kernel
theorem dX8_above_9 : decode cX8_above 9 = .ok (.iload_n 3, 1) := by decide +kernel
theorem dX8_above_10 : decode cX8_above 10 = .ok (.bipush (-6), 2) := by decide +kernel
theorem dX8_above_12 : decode cX8_above 12 = .ok (.if_icmp .eq 16, 3) := by decide +kernel
theorem dX8_above_15 : decode cX8_above 15 = .ok (.iinc 2 1, 3) := by decide +kernel
theorem dX8_above_18 : decode cX8_above 18 = .ok (.aload_n 0, 1) := by decide +kernel
theorem dX8_above_19 : decode cX8_above 19 = .ok (.iload_n 3, 1) := by decide +kernel
theorem dX8_above_20 : decode cX8_above 20 = .ok (.iconst 0, 1) := by decide +kernel
theorem dX8_above_21 : decode cX8_above 21 = .ok (.invokevirtual 44, 3) := by decide +kernel
theorem dX8_above_24 : decode cX8_above 24 = .ok (.istore_n 3, 1) := by decide +kernel
theorem dX8_above_25 : decode cX8_above 25 = .ok (.goto (-16), 3) := by decide +kernel
theorem dX8_above_28 : decode cX8_above 28 = .ok (.iload_n 2, 1) := by decide +kernel
theorem dX8_above_29 : decode cX8_above 29 = .ok (.ireturn, 1) := by decide +kernel
theorem dX8_higher_0 : decode cX8_higher 0 = .ok (.iload_n 1, 1) := by decide +kernel
theorem dX8_higher_1 : decode cX8_higher 1 = .ok (.istore_n 3, 1) := by decide +kernel
theorem dX8_higher_2 : decode cX8_higher 2 = .ok (.iconst 0, 1) := by decide +kernel
theorem dX8_higher_3 : decode cX8_higher 3 = .ok (.istore 4, 2) := by decide +kernel
theorem dX8_higher_5 : decode cX8_higher 5 = .ok (.iload 4, 2) := by decide +kernel
theorem dX8_higher_7 : decode cX8_higher 7 = .ok (.iload_n 2, 1) := by decide +kernel
theorem dX8_higher_8 : decode cX8_higher 8 = .ok (.if_icmp .ge 16, 3) := by decide +kernel
theorem dX8_higher_11 : decode cX8_higher 11 = .ok (.aload_n 0, 1) := by decide +kernel
theorem dX8_higher_12 : decode cX8_higher 12 = .ok (.iload_n 3, 1) := by decide +kernel
theorem dX8_higher_13 : decode cX8_higher 13 = .ok (.iconst 0, 1) := by decide +kernel
theorem dX8_higher_14 : decode cX8_higher 14 = .ok (.invokevirtual 44, 3) := by decide +kernel
theorem dX8_higher_17 : decode cX8_higher 17 = .ok (.istore_n 3, 1) := by decide +kernel
theorem dX8_higher_18 : decode cX8_higher 18 = .ok (.iinc 4 1, 3) := by decide +kernel
theorem dX8_higher_21 : decode cX8_higher 21 = .ok (.goto (-16), 3) := by decide +kernel
theorem dX8_higher_24 : decode cX8_higher 24 = .ok (.iload_n 3, 1) := by decide +kernel
theorem dX8_higher_25 : decode cX8_higher 25 = .ok (.ireturn, 1) := by decide +kernel
theorem dX8_hangingKeys_0 : decode cX8_hangingKeys 0 = .ok (.iconst 0, 1) := by decide +kernel
theorem dX8_hangingKeys_1 : decode cX8_hangingKeys 1 = .ok (.istore_n 2, 1) := by decide +kernel
theorem dX8_hangingKeys_2 : decode cX8_hangingKeys 2 = .ok (.iconst 0, 1) := by decide +kernel
theorem dX8_hangingKeys_3 : decode cX8_hangingKeys 3 = .ok (.istore_n 3, 1) := by decide +kernel
theorem dX8_hangingKeys_4 : decode cX8_hangingKeys 4 = .ok (.iload_n 3, 1) := by decide +kernel
theorem dX8_hangingKeys_5 : decode cX8_hangingKeys 5 = .ok (.aload_n 0, 1) := by decide +kernel
theorem dX8_hangingKeys_6 : decode cX8_hangingKeys 6 = .ok (.getfield 7, 3) := by decide +kernel
theorem dX8_hangingKeys_9 : decode cX8_hangingKeys 9 = .ok (.iconst 1, 1) := by decide +kernel
theorem dX8_hangingKeys_10 : decode cX8_hangingKeys 10 = .ok (.iaload, 1) := by decide +kernel
theorem dX8_hangingKeys_11 : decode cX8_hangingKeys 11 = .ok (.if_icmp .ge 39, 3) := by decide +kernel
theorem dX8_hangingKeys_14 : decode cX8_hangingKeys 14 = .ok (.iload_n 2, 1) := by decide +kernel
theorem dX8_hangingKeys_15 : decode cX8_hangingKeys 15 = .ok (.aload_n 0, 1) := by decide +kernel
theorem dX8_hangingKeys_16 : decode cX8_hangingKeys 16 = .ok (.iload_n 3, 1) := by decide +kernel
theorem dX8_hangingKeys_17 : decode cX8_hangingKeys 17 = .ok (.iconst 1, 1) := by decide +kernel
theorem dX8_hangingKeys_18 : decode cX8_hangingKeys 18 = .ok (.invokevirtual 44, 3) := by decide +kernel
theorem dX8_hangingKeys_21 : decode cX8_hangingKeys 21 = .ok (.iconst 1, 1) := by decide +kernel
theorem dX8_hangingKeys_22 : decode cX8_hangingKeys 22 = .ok (.if_icmp .ne 19, 3) := by decide +kernel
theorem dX8_hangingKeys_25 : decode cX8_hangingKeys 25 = .ok (.aload_n 0, 1) := by decide +kernel
theorem dX8_hangingKeys_26 : decode cX8_hangingKeys 26 = .ok (.iload_n 3, 1) := by decide +kernel
theorem dX8_hangingKeys_27 : decode cX8_hangingKeys 27 = .ok (.iconst 0, 1) := by decide +kernel
theorem dX8_hangingKeys_28 : decode cX8_hangingKeys 28 = .ok (.invokevirtual 44, 3) := by decide +kernel
theorem dX8_hangingKeys_31 : decode cX8_hangingKeys 31 = .ok (.iload_n 1, 1) := by decide +kernel
theorem dX8_hangingKeys_32 : decode cX8_hangingKeys 32 = .ok (.if_icmp .ne 9, 3) := by decide +kernel
theorem dX8_hangingKeys_35 : decode cX8_hangingKeys 35 = .ok (.iconst 1, 1) := by decide +kernel
theorem dX8_hangingKeys_36 : decode cX8_hangingKeys 36 = .ok (.iload_n 3, 1) := by decide +kernel
theorem dX8_hangingKeys_37 : decode cX8_hangingKeys 37 = .ok (.ishl, 1) := by decide +kernel
theorem dX8_hangingKeys_38 : decode cX8_hangingKeys 38 = .ok (.goto 4, 3) := by decide +kernel
theorem dX8_hangingKeys_41 : decode cX8_hangingKeys 41 = .ok (.iconst 0, 1) := by decide +kernel
theorem dX8_hangingKeys_42 : decode cX8_hangingKeys 42 = .ok (.ior, 1) := by decide +kernel
theorem dX8_hangingKeys_43 : decode cX8_hangingKeys 43 = .ok (.istore_n 2, 1) := by decide +kernel
theorem dX8_hangingKeys_44 : decode cX8_hangingKeys 44 = .ok (.iinc 3 1, 3) := by decide +kernel
theorem dX8_hangingKeys_47 : decode cX8_hangingKeys 47 = .ok (.goto (-43), 3) := by decide +kernel
theorem dX8_hangingKeys_50 : decode cX8_hangingKeys 50 = .ok (.iload_n 2, 1) := by decide +kernel
theorem dX8_hangingKeys_51 : decode cX8_hangingKeys 51 = .ok (.ireturn, 1) := by decide +kernel
theorem dX8_hangingBoxes_0 : decode cX8_hangingBoxes 0 = .ok (.iconst 0, 1) := by decide +kernel
theorem dX8_hangingBoxes_1 : decode cX8_hangingBoxes 1 = .ok (.istore_n 2, 1) := by decide +kernel
theorem dX8_hangingBoxes_2 : decode cX8_hangingBoxes 2 = .ok (.iconst 0, 1) := by decide +kernel
theorem dX8_hangingBoxes_3 : decode cX8_hangingBoxes 3 = .ok (.istore_n 3, 1) := by decide +kernel
theorem dX8_hangingBoxes_4 : decode cX8_hangingBoxes 4 = .ok (.iload_n 3, 1) := by decide +kernel
theorem dX8_hangingBoxes_5 : decode cX8_hangingBoxes 5 = .ok (.aload_n 0, 1) := by decide +kernel
theorem dX8_hangingBoxes_6 : decode cX8_hangingBoxes 6 = .ok (.getfield 7, 3) := by decide +kernel
theorem dX8_hangingBoxes_9 : decode cX8_hangingBoxes 9 = .ok (.iconst 2, 1) := by decide +kernel
theorem dX8_hangingBoxes_10 : decode cX8_hangingBoxes 10 = .ok (.iaload, 1) := by decide +kernel
theorem dX8_hangingBoxes_11 : decode cX8_hangingBoxes 11 = .ok (.if_icmp .ge 39, 3) := by decide +kernel
theorem dX8_hangingBoxes_14 : decode cX8_hangingBoxes 14 = .ok (.iload_n 2, 1) := by decide +kernel
theorem dX8_hangingBoxes_15 : decode cX8_hangingBoxes 15 = .ok (.aload_n 0, 1) := by decide +kernel
theorem dX8_hangingBoxes_16 : decode cX8_hangingBoxes 16 = .ok (.iload_n 3, 1) := by decide +kernel
theorem dX8_hangingBoxes_17 : decode cX8_hangingBoxes 17 = .ok (.iconst 1, 1) := by decide +kernel
theorem dX8_hangingBoxes_18 : decode cX8_hangingBoxes 18 = .ok (.invokevirtual 51, 3) := by decide +kernel
theorem dX8_hangingBoxes_21 : decode cX8_hangingBoxes 21 = .ok (.iconst 1, 1) := by decide +kernel
theorem dX8_hangingBoxes_22 : decode cX8_hangingBoxes 22 = .ok (.if_icmp .ne 19, 3) := by decide +kernel
theorem dX8_hangingBoxes_25 : decode cX8_hangingBoxes 25 = .ok (.aload_n 0, 1) := by decide +kernel
theorem dX8_hangingBoxes_26 : decode cX8_hangingBoxes 26 = .ok (.iload_n 3, 1) := by decide +kernel
theorem dX8_hangingBoxes_27 : decode cX8_hangingBoxes 27 = .ok (.iconst 0, 1) := by decide +kernel
theorem dX8_hangingBoxes_28 : decode cX8_hangingBoxes 28 = .ok (.invokevirtual 51, 3) := by decide +kernel
theorem dX8_hangingBoxes_31 : decode cX8_hangingBoxes 31 = .ok (.iload_n 1, 1) := by decide +kernel
theorem dX8_hangingBoxes_32 : decode cX8_hangingBoxes 32 = .ok (.if_icmp .ne 9, 3) := by decide +kernel
theorem dX8_hangingBoxes_35 : decode cX8_hangingBoxes 35 = .ok (.iconst 1, 1) := by decide +kernel
theorem dX8_hangingBoxes_36 : decode cX8_hangingBoxes 36 = .ok (.iload_n 3, 1) := by decide +kernel
theorem dX8_hangingBoxes_37 : decode cX8_hangingBoxes 37 = .ok (.ishl, 1) := by decide +kernel
theorem dX8_hangingBoxes_38 : decode cX8_hangingBoxes 38 = .ok (.goto 4, 3) := by decide +kernel
theorem dX8_hangingBoxes_41 : decode cX8_hangingBoxes 41 = .ok (.iconst 0, 1) := by decide +kernel
theorem dX8_hangingBoxes_42 : decode cX8_hangingBoxes 42 = .ok (.ior, 1) := by decide +kernel
theorem dX8_hangingBoxes_43 : decode cX8_hangingBoxes 43 = .ok (.istore_n 2, 1) := by decide +kernel
theorem dX8_hangingBoxes_44 : decode cX8_hangingBoxes 44 = .ok (.iinc 3 1, 3) := by decide +kernel
theorem dX8_hangingBoxes_47 : decode cX8_hangingBoxes 47 = .ok (.goto (-43), 3) := by decide +kernel
theorem dX8_hangingBoxes_50 : decode cX8_hangingBoxes 50 = .ok (.iload_n 2, 1) := by decide +kernel
theorem dX8_hangingBoxes_51 : decode cX8_hangingBoxes 51 = .ok (.ireturn, 1) := by decide +kernel
theorem dX8_bits_0 : decode cX8_bits 0 = .ok (.iconst 0, 1) := by decide +kernel
theorem dX8_bits_1 : decode cX8_bits 1 = .ok (.istore_n 1, 1) := by decide +kernel
theorem dX8_bits_2 : decode cX8_bits 2 = .ok (.iconst 0, 1) := by decide +kernel
theorem dX8_bits_3 : decode cX8_bits 3 = .ok (.istore_n 2, 1) := by decide +kernel
theorem dX8_bits_4 : decode cX8_bits 4 = .ok (.iload_n 2, 1) := by decide +kernel
theorem dX8_bits_5 : decode cX8_bits 5 = .ok (.bipush 20, 2) := by decide +kernel
theorem dX8_bits_7 : decode cX8_bits 7 = .ok (.if_icmp .ge 17, 3) := by decide +kernel
theorem dX8_bits_10 : decode cX8_bits 10 = .ok (.iload_n 1, 1) := by decide +kernel
theorem dX8_bits_11 : decode cX8_bits 11 = .ok (.iload_n 0, 1) := by decide +kernel
theorem dX8_bits_12 : decode cX8_bits 12 = .ok (.iload_n 2, 1) := by decide +kernel
theorem dX8_bits_13 : decode cX8_bits 13 = .ok (.ishr, 1) := by decide +kernel
theorem dX8_bits_14 : decode cX8_bits 14 = .ok (.iconst 1, 1) := by decide +kernel
theorem dX8_bits_15 : decode cX8_bits 15 = .ok (.iand, 1) := by decide +kernel
theorem dX8_bits_16 : decode cX8_bits 16 = .ok (.iadd, 1) := by decide +kernel
theorem dX8_bits_17 : decode cX8_bits 17 = .ok (.istore_n 1, 1) := by decide +kernel
theorem dX8_bits_18 : decode cX8_bits 18 = .ok (.iinc 2 1, 3) := by decide +kernel
theorem dX8_bits_21 : decode cX8_bits 21 = .ok (.goto (-17), 3) := by decide +kernel
theorem dX8_bits_24 : decode cX8_bits 24 = .ok (.iload_n 1, 1) := by decide +kernel
theorem dX8_bits_25 : decode cX8_bits 25 = .ok (.ireturn, 1) := by decide +kernel
theorem dX8_hangingFrom_0 : decode cX8_hangingFrom 0 = .ok (.aload_n 0, 1) := by decide +kernel
theorem dX8_hangingFrom_1 : decode cX8_hangingFrom 1 = .ok (.iload_n 1, 1) := by decide +kernel
theorem dX8_hangingFrom_2 : decode cX8_hangingFrom 2 = .ok (.invokevirtual 54, 3) := by decide +kernel
theorem dX8_hangingFrom_5 : decode cX8_hangingFrom 5 = .ok (.invokestatic 58, 3) := by decide +kernel
theorem dX8_hangingFrom_8 : decode cX8_hangingFrom 8 = .ok (.aload_n 0, 1) := by decide +kernel
theorem dX8_hangingFrom_9 : decode cX8_hangingFrom 9 = .ok (.iload_n 1, 1) := by decide +kernel
theorem dX8_hangingFrom_10 : decode cX8_hangingFrom 10 = .ok (.invokevirtual 61, 3) := by decide +kernel
theorem dX8_hangingFrom_13 : decode cX8_hangingFrom 13 = .ok (.invokestatic 58, 3) := by decide +kernel
theorem dX8_hangingFrom_16 : decode cX8_hangingFrom 16 = .ok (.iadd, 1) := by decide +kernel
theorem dX8_hangingFrom_17 : decode cX8_hangingFrom 17 = .ok (.ireturn, 1) := by decide +kernel
theorem dX8_makeWrap_0 : decode cX8_makeWrap 0 = .ok (.aload_n 0, 1) := by decide +kernel
theorem dX8_makeWrap_1 : decode cX8_makeWrap 1 = .ok (.getfield 7, 3) := by decide +kernel
theorem dX8_makeWrap_4 : decode cX8_makeWrap 4 = .ok (.iconst 3, 1) := by decide +kernel
theorem dX8_makeWrap_5 : decode cX8_makeWrap 5 = .ok (.iaload, 1) := by decide +kernel
theorem dX8_makeWrap_6 : decode cX8_makeWrap 6 = .ok (.istore 4, 2) := by decide +kernel
theorem dX8_makeWrap_8 : decode cX8_makeWrap 8 = .ok (.aload_n 0, 1) := by decide +kernel
theorem dX8_makeWrap_9 : decode cX8_makeWrap 9 = .ok (.iload 4, 2) := by decide +kernel
theorem dX8_makeWrap_11 : decode cX8_makeWrap 11 = .ok (.iconst 0, 1) := by decide +kernel
theorem dX8_makeWrap_12 : decode cX8_makeWrap 12 = .ok (.iload_n 1, 1) := by decide +kernel
theorem dX8_makeWrap_13 : decode cX8_makeWrap 13 = .ok (.invokevirtual 64, 3) := by decide +kernel
theorem dX8_makeWrap_16 : decode cX8_makeWrap 16 = .ok (.aload_n 0, 1) := by decide +kernel
theorem dX8_makeWrap_17 : decode cX8_makeWrap 17 = .ok (.iload 4, 2) := by decide +kernel
theorem dX8_makeWrap_19 : decode cX8_makeWrap 19 = .ok (.iconst 1, 1) := by decide +kernel
theorem dX8_makeWrap_20 : decode cX8_makeWrap 20 = .ok (.iload_n 2, 1) := by decide +kernel
theorem dX8_makeWrap_21 : decode cX8_makeWrap 21 = .ok (.invokevirtual 64, 3) := by decide +kernel
theorem dX8_makeWrap_24 : decode cX8_makeWrap 24 = .ok (.aload_n 0, 1) := by decide +kernel
theorem dX8_makeWrap_25 : decode cX8_makeWrap 25 = .ok (.iload 4, 2) := by decide +kernel
theorem dX8_makeWrap_27 : decode cX8_makeWrap 27 = .ok (.iconst 2, 1) := by decide +kernel
theorem dX8_makeWrap_28 : decode cX8_makeWrap 28 = .ok (.iload_n 3, 1) := by decide +kernel
theorem dX8_makeWrap_29 : decode cX8_makeWrap 29 = .ok (.invokevirtual 64, 3) := by decide +kernel
theorem dX8_makeWrap_32 : decode cX8_makeWrap 32 = .ok (.aload_n 0, 1) := by decide +kernel
theorem dX8_makeWrap_33 : decode cX8_makeWrap 33 = .ok (.iload 4, 2) := by decide +kernel
theorem dX8_makeWrap_35 : decode cX8_makeWrap 35 = .ok (.iconst 3, 1) := by decide +kernel
theorem dX8_makeWrap_36 : decode cX8_makeWrap 36 = .ok (.aload_n 0, 1) := by decide +kernel
theorem dX8_makeWrap_37 : decode cX8_makeWrap 37 = .ok (.iload_n 3, 1) := by decide +kernel
theorem dX8_makeWrap_38 : decode cX8_makeWrap 38 = .ok (.iconst 2, 1) := by decide +kernel
theorem dX8_makeWrap_39 : decode cX8_makeWrap 39 = .ok (.invokevirtual 44, 3) := by decide +kernel
theorem dX8_makeWrap_42 : decode cX8_makeWrap 42 = .ok (.invokevirtual 64, 3) := by decide +kernel
theorem dX8_makeWrap_45 : decode cX8_makeWrap 45 = .ok (.aload_n 0, 1) := by decide +kernel
theorem dX8_makeWrap_46 : decode cX8_makeWrap 46 = .ok (.iload 4, 2) := by decide +kernel
theorem dX8_makeWrap_48 : decode cX8_makeWrap 48 = .ok (.iconst 4, 1) := by decide +kernel
theorem dX8_makeWrap_49 : decode cX8_makeWrap 49 = .ok (.iconst 1, 1) := by decide +kernel
theorem dX8_makeWrap_50 : decode cX8_makeWrap 50 = .ok (.invokevirtual 64, 3) := by decide +kernel
theorem dX8_makeWrap_53 : decode cX8_makeWrap 53 = .ok (.aload_n 0, 1) := by decide +kernel
theorem dX8_makeWrap_54 : decode cX8_makeWrap 54 = .ok (.iload 4, 2) := by decide +kernel
theorem dX8_makeWrap_56 : decode cX8_makeWrap 56 = .ok (.iconst 5, 1) := by decide +kernel
theorem dX8_makeWrap_57 : decode cX8_makeWrap 57 = .ok (.iconst 0, 1) := by decide +kernel
theorem dX8_makeWrap_58 : decode cX8_makeWrap 58 = .ok (.invokevirtual 64, 3) := by decide +kernel
theorem dX8_makeWrap_61 : decode cX8_makeWrap 61 = .ok (.aload_n 0, 1) := by decide +kernel
theorem dX8_makeWrap_62 : decode cX8_makeWrap 62 = .ok (.iload_n 3, 1) := by decide +kernel
theorem dX8_makeWrap_63 : decode cX8_makeWrap 63 = .ok (.iconst 3, 1) := by decide +kernel
theorem dX8_makeWrap_64 : decode cX8_makeWrap 64 = .ok (.aload_n 0, 1) := by decide +kernel
theorem dX8_makeWrap_65 : decode cX8_makeWrap 65 = .ok (.iload_n 3, 1) := by decide +kernel
theorem dX8_makeWrap_66 : decode cX8_makeWrap 66 = .ok (.iconst 3, 1) := by decide +kernel
theorem dX8_makeWrap_67 : decode cX8_makeWrap 67 = .ok (.invokevirtual 44, 3) := by decide +kernel
theorem dX8_makeWrap_70 : decode cX8_makeWrap 70 = .ok (.iconst 1, 1) := by decide +kernel
theorem dX8_makeWrap_71 : decode cX8_makeWrap 71 = .ok (.iadd, 1) := by decide +kernel
theorem dX8_makeWrap_72 : decode cX8_makeWrap 72 = .ok (.invokevirtual 68, 3) := by decide +kernel
theorem dX8_makeWrap_75 : decode cX8_makeWrap 75 = .ok (.aload_n 0, 1) := by decide +kernel
theorem dX8_makeWrap_76 : decode cX8_makeWrap 76 = .ok (.getfield 7, 3) := by decide +kernel
theorem dX8_makeWrap_79 : decode cX8_makeWrap 79 = .ok (.iconst 3, 1) := by decide +kernel
theorem dX8_makeWrap_80 : decode cX8_makeWrap 80 = .ok (.dup2, 1) := by decide +kernel
theorem dX8_makeWrap_81 : decode cX8_makeWrap 81 = .ok (.iaload, 1) := by decide +kernel
theorem dX8_makeWrap_82 : decode cX8_makeWrap 82 = .ok (.iconst 1, 1) := by decide +kernel
theorem dX8_makeWrap_83 : decode cX8_makeWrap 83 = .ok (.iadd, 1) := by decide +kernel
theorem dX8_makeWrap_84 : decode cX8_makeWrap 84 = .ok (.iastore, 1) := by decide +kernel
theorem dX8_makeWrap_85 : decode cX8_makeWrap 85 = .ok (.return_, 1) := by decide +kernel
theorem dX8_wrapKey_0 : decode cX8_wrapKey 0 = .ok (.aload_n 0, 1) := by decide +kernel
theorem dX8_wrapKey_1 : decode cX8_wrapKey 1 = .ok (.iload_n 1, 1) := by decide +kernel
theorem dX8_wrapKey_2 : decode cX8_wrapKey 2 = .ok (.aload_n 0, 1) := by decide +kernel
theorem dX8_wrapKey_3 : decode cX8_wrapKey 3 = .ok (.iload_n 1, 1) := by decide +kernel
theorem dX8_wrapKey_4 : decode cX8_wrapKey 4 = .ok (.iconst 2, 1) := by decide +kernel
theorem dX8_wrapKey_5 : decode cX8_wrapKey 5 = .ok (.invokevirtual 44, 3) := by decide +kernel
theorem dX8_wrapKey_8 : decode cX8_wrapKey 8 = .ok (.aload_n 0, 1) := by decide +kernel
theorem dX8_wrapKey_9 : decode cX8_wrapKey 9 = .ok (.iload_n 1, 1) := by decide +kernel
theorem dX8_wrapKey_10 : decode cX8_wrapKey 10 = .ok (.iconst 0, 1) := by decide +kernel
theorem dX8_wrapKey_11 : decode cX8_wrapKey 11 = .ok (.invokevirtual 44, 3) := by decide +kernel
theorem dX8_wrapKey_14 : decode cX8_wrapKey 14 = .ok (.invokevirtual 71, 3) := by decide +kernel
theorem dX8_wrapKey_17 : decode cX8_wrapKey 17 = .ok (.return_, 1) := by decide +kernel
theorem dX8_wrapBox_0 : decode cX8_wrapBox 0 = .ok (.aload_n 0, 1) := by decide +kernel
theorem dX8_wrapBox_1 : decode cX8_wrapBox 1 = .ok (.bipush (-6), 2) := by decide +kernel
theorem dX8_wrapBox_3 : decode cX8_wrapBox 3 = .ok (.iload_n 1, 1) := by decide +kernel
theorem dX8_wrapBox_4 : decode cX8_wrapBox 4 = .ok (.aload_n 0, 1) := by decide +kernel
theorem dX8_wrapBox_5 : decode cX8_wrapBox 5 = .ok (.iload_n 1, 1) := by decide +kernel
theorem dX8_wrapBox_6 : decode cX8_wrapBox 6 = .ok (.iconst 0, 1) := by decide +kernel
theorem dX8_wrapBox_7 : decode cX8_wrapBox 7 = .ok (.invokevirtual 51, 3) := by decide +kernel
theorem dX8_wrapBox_10 : decode cX8_wrapBox 10 = .ok (.invokevirtual 71, 3) := by decide +kernel
theorem dX8_wrapBox_13 : decode cX8_wrapBox 13 = .ok (.return_, 1) := by decide +kernel
theorem dX8_wrapAllUnder_0 : decode cX8_wrapAllUnder 0 = .ok (.iconst 0, 1) := by decide +kernel
theorem dX8_wrapAllUnder_1 : decode cX8_wrapAllUnder 1 = .ok (.istore_n 2, 1) := by decide +kernel
theorem dX8_wrapAllUnder_2 : decode cX8_wrapAllUnder 2 = .ok (.iload_n 2, 1) := by decide +kernel
theorem dX8_wrapAllUnder_3 : decode cX8_wrapAllUnder 3 = .ok (.aload_n 0, 1) := by decide +kernel
theorem dX8_wrapAllUnder_4 : decode cX8_wrapAllUnder 4 = .ok (.getfield 7, 3) := by decide +kernel
theorem dX8_wrapAllUnder_7 : decode cX8_wrapAllUnder 7 = .ok (.iconst 1, 1) := by decide +kernel
theorem dX8_wrapAllUnder_8 : decode cX8_wrapAllUnder 8 = .ok (.iaload, 1) := by decide +kernel
theorem dX8_wrapAllUnder_9 : decode cX8_wrapAllUnder 9 = .ok (.if_icmp .ge 34, 3) := by decide +kernel
theorem dX8_wrapAllUnder_12 : decode cX8_wrapAllUnder 12 = .ok (.aload_n 0, 1) := by decide +kernel
theorem dX8_wrapAllUnder_13 : decode cX8_wrapAllUnder 13 = .ok (.iload_n 2, 1) := by decide +kernel
theorem dX8_wrapAllUnder_14 : decode cX8_wrapAllUnder 14 = .ok (.iconst 1, 1) := by decide +kernel
theorem dX8_wrapAllUnder_15 : decode cX8_wrapAllUnder 15 = .ok (.invokevirtual 44, 3) := by decide +kernel
theorem dX8_wrapAllUnder_18 : decode cX8_wrapAllUnder 18 = .ok (.iconst 1, 1) := by decide +kernel
theorem dX8_wrapAllUnder_19 : decode cX8_wrapAllUnder 19 = .ok (.if_icmp .ne 18, 3) := by decide +kernel
theorem dX8_wrapAllUnder_22 : decode cX8_wrapAllUnder 22 = .ok (.aload_n 0, 1) := by decide +kernel
theorem dX8_wrapAllUnder_23 : decode cX8_wrapAllUnder 23 = .ok (.iload_n 2, 1) := by decide +kernel
theorem dX8_wrapAllUnder_24 : decode cX8_wrapAllUnder 24 = .ok (.iconst 0, 1) := by decide +kernel
theorem dX8_wrapAllUnder_25 : decode cX8_wrapAllUnder 25 = .ok (.invokevirtual 44, 3) := by decide +kernel
theorem dX8_wrapAllUnder_28 : decode cX8_wrapAllUnder 28 = .ok (.iload_n 1, 1) := by decide +kernel
theorem dX8_wrapAllUnder_29 : decode cX8_wrapAllUnder 29 = .ok (.if_icmp .ne 8, 3) := by decide +kernel
theorem dX8_wrapAllUnder_32 : decode cX8_wrapAllUnder 32 = .ok (.aload_n 0, 1) := by decide +kernel
theorem dX8_wrapAllUnder_33 : decode cX8_wrapAllUnder 33 = .ok (.iload_n 2, 1) := by decide +kernel
theorem dX8_wrapAllUnder_34 : decode cX8_wrapAllUnder 34 = .ok (.invokevirtual 74, 3) := by decide +kernel
theorem dX8_wrapAllUnder_37 : decode cX8_wrapAllUnder 37 = .ok (.iinc 2 1, 3) := by decide +kernel
theorem dX8_wrapAllUnder_40 : decode cX8_wrapAllUnder 40 = .ok (.goto (-38), 3) := by decide +kernel
theorem dX8_wrapAllUnder_43 : decode cX8_wrapAllUnder 43 = .ok (.iconst 0, 1) := by decide +kernel
theorem dX8_wrapAllUnder_44 : decode cX8_wrapAllUnder 44 = .ok (.istore_n 2, 1) := by decide +kernel
theorem dX8_wrapAllUnder_45 : decode cX8_wrapAllUnder 45 = .ok (.iload_n 2, 1) := by decide +kernel
theorem dX8_wrapAllUnder_46 : decode cX8_wrapAllUnder 46 = .ok (.aload_n 0, 1) := by decide +kernel
theorem dX8_wrapAllUnder_47 : decode cX8_wrapAllUnder 47 = .ok (.getfield 7, 3) := by decide +kernel
theorem dX8_wrapAllUnder_50 : decode cX8_wrapAllUnder 50 = .ok (.iconst 2, 1) := by decide +kernel
theorem dX8_wrapAllUnder_51 : decode cX8_wrapAllUnder 51 = .ok (.iaload, 1) := by decide +kernel
theorem dX8_wrapAllUnder_52 : decode cX8_wrapAllUnder 52 = .ok (.if_icmp .ge 34, 3) := by decide +kernel
theorem dX8_wrapAllUnder_55 : decode cX8_wrapAllUnder 55 = .ok (.aload_n 0, 1) := by decide +kernel
theorem dX8_wrapAllUnder_56 : decode cX8_wrapAllUnder 56 = .ok (.iload_n 2, 1) := by decide +kernel
theorem dX8_wrapAllUnder_57 : decode cX8_wrapAllUnder 57 = .ok (.iconst 1, 1) := by decide +kernel
theorem dX8_wrapAllUnder_58 : decode cX8_wrapAllUnder 58 = .ok (.invokevirtual 51, 3) := by decide +kernel
theorem dX8_wrapAllUnder_61 : decode cX8_wrapAllUnder 61 = .ok (.iconst 1, 1) := by decide +kernel
theorem dX8_wrapAllUnder_62 : decode cX8_wrapAllUnder 62 = .ok (.if_icmp .ne 18, 3) := by decide +kernel
theorem dX8_wrapAllUnder_65 : decode cX8_wrapAllUnder 65 = .ok (.aload_n 0, 1) := by decide +kernel
theorem dX8_wrapAllUnder_66 : decode cX8_wrapAllUnder 66 = .ok (.iload_n 2, 1) := by decide +kernel
theorem dX8_wrapAllUnder_67 : decode cX8_wrapAllUnder 67 = .ok (.iconst 0, 1) := by decide +kernel
theorem dX8_wrapAllUnder_68 : decode cX8_wrapAllUnder 68 = .ok (.invokevirtual 51, 3) := by decide +kernel
theorem dX8_wrapAllUnder_71 : decode cX8_wrapAllUnder 71 = .ok (.iload_n 1, 1) := by decide +kernel
theorem dX8_wrapAllUnder_72 : decode cX8_wrapAllUnder 72 = .ok (.if_icmp .ne 8, 3) := by decide +kernel
theorem dX8_wrapAllUnder_75 : decode cX8_wrapAllUnder 75 = .ok (.aload_n 0, 1) := by decide +kernel
theorem dX8_wrapAllUnder_76 : decode cX8_wrapAllUnder 76 = .ok (.iload_n 2, 1) := by decide +kernel
theorem dX8_wrapAllUnder_77 : decode cX8_wrapAllUnder 77 = .ok (.invokevirtual 78, 3) := by decide +kernel
theorem dX8_wrapAllUnder_80 : decode cX8_wrapAllUnder 80 = .ok (.iinc 2 1, 3) := by decide +kernel
theorem dX8_wrapAllUnder_83 : decode cX8_wrapAllUnder 83 = .ok (.goto (-38), 3) := by decide +kernel
theorem dX8_wrapAllUnder_86 : decode cX8_wrapAllUnder 86 = .ok (.return_, 1) := by decide +kernel
theorem dX8_burns_0 : decode cX8_burns 0 = .ok (.iconst 0, 1) := by decide +kernel
theorem dX8_burns_1 : decode cX8_burns 1 = .ok (.istore_n 1, 1) := by decide +kernel
theorem dX8_burns_2 : decode cX8_burns 2 = .ok (.iload_n 1, 1) := by decide +kernel
theorem dX8_burns_3 : decode cX8_burns 3 = .ok (.aload_n 0, 1) := by decide +kernel
theorem dX8_burns_4 : decode cX8_burns 4 = .ok (.getfield 7, 3) := by decide +kernel
theorem dX8_burns_7 : decode cX8_burns 7 = .ok (.iconst 3, 1) := by decide +kernel
theorem dX8_burns_8 : decode cX8_burns 8 = .ok (.iaload, 1) := by decide +kernel
theorem dX8_burns_9 : decode cX8_burns 9 = .ok (.if_icmp .ge 128, 3) := by decide +kernel
theorem dX8_burns_12 : decode cX8_burns 12 = .ok (.aload_n 0, 1) := by decide +kernel
theorem dX8_burns_13 : decode cX8_burns 13 = .ok (.iload_n 1, 1) := by decide +kernel
theorem dX8_burns_14 : decode cX8_burns 14 = .ok (.iconst 0, 1) := by decide +kernel
theorem dX8_burns_15 : decode cX8_burns 15 = .ok (.invokevirtual 81, 3) := by decide +kernel
theorem dX8_burns_18 : decode cX8_burns 18 = .ok (.istore_n 2, 1) := by decide +kernel
theorem dX8_burns_19 : decode cX8_burns 19 = .ok (.aload_n 0, 1) := by decide +kernel
theorem dX8_burns_20 : decode cX8_burns 20 = .ok (.iload_n 1, 1) := by decide +kernel
theorem dX8_burns_21 : decode cX8_burns 21 = .ok (.iconst 2, 1) := by decide +kernel
theorem dX8_burns_22 : decode cX8_burns 22 = .ok (.invokevirtual 81, 3) := by decide +kernel
theorem dX8_burns_25 : decode cX8_burns 25 = .ok (.istore_n 3, 1) := by decide +kernel
theorem dX8_burns_26 : decode cX8_burns 26 = .ok (.aload_n 0, 1) := by decide +kernel
theorem dX8_burns_27 : decode cX8_burns 27 = .ok (.iload_n 1, 1) := by decide +kernel
theorem dX8_burns_28 : decode cX8_burns 28 = .ok (.iconst 3, 1) := by decide +kernel
theorem dX8_burns_29 : decode cX8_burns 29 = .ok (.invokevirtual 81, 3) := by decide +kernel
theorem dX8_burns_32 : decode cX8_burns 32 = .ok (.aload_n 0, 1) := by decide +kernel
theorem dX8_burns_33 : decode cX8_burns 33 = .ok (.iload_n 3, 1) := by decide +kernel
theorem dX8_burns_34 : decode cX8_burns 34 = .ok (.iconst 2, 1) := by decide +kernel
theorem dX8_burns_35 : decode cX8_burns 35 = .ok (.invokevirtual 44, 3) := by decide +kernel
theorem dX8_burns_38 : decode cX8_burns 38 = .ok (.if_icmp .ge 7, 3) := by decide +kernel
theorem dX8_burns_41 : decode cX8_burns 41 = .ok (.iconst 1, 1) := by decide +kernel
theorem dX8_burns_42 : decode cX8_burns 42 = .ok (.goto 4, 3) := by decide +kernel
theorem dX8_burns_45 : decode cX8_burns 45 = .ok (.iconst 0, 1) := by decide +kernel
theorem dX8_burns_46 : decode cX8_burns 46 = .ok (.istore 4, 2) := by decide +kernel
theorem dX8_burns_48 : decode cX8_burns 48 = .ok (.iload_n 2, 1) := by decide +kernel
theorem dX8_burns_49 : decode cX8_burns 49 = .ok (.bipush (-6), 2) := by decide +kernel
theorem dX8_burns_51 : decode cX8_burns 51 = .ok (.if_icmp .ne 32, 3) := by decide +kernel
theorem dX8_burns_54 : decode cX8_burns 54 = .ok (.iload 4, 2) := by decide +kernel
theorem dX8_burns_56 : decode cX8_burns 56 = .ok (.ifCond .ne 17, 3) := by decide +kernel
theorem dX8_burns_59 : decode cX8_burns 59 = .ok (.aload_n 0, 1) := by decide +kernel
theorem dX8_burns_60 : decode cX8_burns 60 = .ok (.aload_n 0, 1) := by decide +kernel
theorem dX8_burns_61 : decode cX8_burns 61 = .ok (.iload_n 1, 1) := by decide +kernel
theorem dX8_burns_62 : decode cX8_burns 62 = .ok (.iconst 1, 1) := by decide +kernel
theorem dX8_burns_63 : decode cX8_burns 63 = .ok (.invokevirtual 81, 3) := by decide +kernel
theorem dX8_burns_66 : decode cX8_burns 66 = .ok (.iconst 1, 1) := by decide +kernel
theorem dX8_burns_67 : decode cX8_burns 67 = .ok (.invokevirtual 51, 3) := by decide +kernel
theorem dX8_burns_70 : decode cX8_burns 70 = .ok (.ifCond .ne 7, 3) := by decide +kernel
theorem dX8_burns_73 : decode cX8_burns 73 = .ok (.iconst 1, 1) := by decide +kernel
theorem dX8_burns_74 : decode cX8_burns 74 = .ok (.goto 4, 3) := by decide +kernel
theorem dX8_burns_77 : decode cX8_burns 77 = .ok (.iconst 0, 1) := by decide +kernel
theorem dX8_burns_78 : decode cX8_burns 78 = .ok (.istore 4, 2) := by decide +kernel
theorem dX8_burns_80 : decode cX8_burns 80 = .ok (.goto 39, 3) := by decide +kernel
theorem dX8_burns_83 : decode cX8_burns 83 = .ok (.iload 4, 2) := by decide +kernel
theorem dX8_burns_85 : decode cX8_burns 85 = .ok (.ifCond .ne 27, 3) := by decide +kernel
theorem dX8_burns_88 : decode cX8_burns 88 = .ok (.aload_n 0, 1) := by decide +kernel
theorem dX8_burns_89 : decode cX8_burns 89 = .ok (.iload_n 2, 1) := by decide +kernel
theorem dX8_burns_90 : decode cX8_burns 90 = .ok (.iconst 1, 1) := by decide +kernel
theorem dX8_burns_91 : decode cX8_burns 91 = .ok (.invokevirtual 44, 3) := by decide +kernel
theorem dX8_burns_94 : decode cX8_burns 94 = .ok (.ifCond .eq 18, 3) := by decide +kernel
theorem dX8_burns_97 : decode cX8_burns 97 = .ok (.aload_n 0, 1) := by decide +kernel
theorem dX8_burns_98 : decode cX8_burns 98 = .ok (.iload_n 1, 1) := by decide +kernel
theorem dX8_burns_99 : decode cX8_burns 99 = .ok (.iconst 1, 1) := by decide +kernel
theorem dX8_burns_100 : decode cX8_burns 100 = .ok (.invokevirtual 81, 3) := by decide +kernel
theorem dX8_burns_103 : decode cX8_burns 103 = .ok (.aload_n 0, 1) := by decide +kernel
theorem dX8_burns_104 : decode cX8_burns 104 = .ok (.iload_n 2, 1) := by decide +kernel
theorem dX8_burns_105 : decode cX8_burns 105 = .ok (.iconst 2, 1) := by decide +kernel
theorem dX8_burns_106 : decode cX8_burns 106 = .ok (.invokevirtual 44, 3) := by decide +kernel
theorem dX8_burns_109 : decode cX8_burns 109 = .ok (.if_icmp .ge 7, 3) := by decide +kernel
theorem dX8_burns_112 : decode cX8_burns 112 = .ok (.iconst 1, 1) := by decide +kernel
theorem dX8_burns_113 : decode cX8_burns 113 = .ok (.goto 4, 3) := by decide +kernel
theorem dX8_burns_116 : decode cX8_burns 116 = .ok (.iconst 0, 1) := by decide +kernel
theorem dX8_burns_117 : decode cX8_burns 117 = .ok (.istore 4, 2) := by decide +kernel
theorem dX8_burns_119 : decode cX8_burns 119 = .ok (.iload 4, 2) := by decide +kernel
theorem dX8_burns_121 : decode cX8_burns 121 = .ok (.ifCond .eq 10, 3) := by decide +kernel
theorem dX8_burns_124 : decode cX8_burns 124 = .ok (.aload_n 0, 1) := by decide +kernel
theorem dX8_burns_125 : decode cX8_burns 125 = .ok (.iload_n 1, 1) := by decide +kernel
theorem dX8_burns_126 : decode cX8_burns 126 = .ok (.iconst 4, 1) := by decide +kernel
theorem dX8_burns_127 : decode cX8_burns 127 = .ok (.iconst 0, 1) := by decide +kernel
theorem dX8_burns_128 : decode cX8_burns 128 = .ok (.invokevirtual 64, 3) := by decide +kernel
theorem dX8_burns_131 : decode cX8_burns 131 = .ok (.iinc 1 1, 3) := by decide +kernel
theorem dX8_burns_134 : decode cX8_burns 134 = .ok (.goto (-132), 3) := by decide +kernel
theorem dX8_burns_137 : decode cX8_burns 137 = .ok (.return_, 1) := by decide +kernel
theorem dX8_isInSafe_0 : decode cX8_isInSafe 0 = .ok (.aload_n 0, 1) := by decide +kernel
theorem dX8_isInSafe_1 : decode cX8_isInSafe 1 = .ok (.iload_n 1, 1) := by decide +kernel
theorem dX8_isInSafe_2 : decode cX8_isInSafe 2 = .ok (.iconst 1, 1) := by decide +kernel
theorem dX8_isInSafe_3 : decode cX8_isInSafe 3 = .ok (.invokevirtual 44, 3) := by decide +kernel
theorem dX8_isInSafe_6 : decode cX8_isInSafe 6 = .ok (.iconst 1, 1) := by decide +kernel
theorem dX8_isInSafe_7 : decode cX8_isInSafe 7 = .ok (.if_icmp .ne 25, 3) := by decide +kernel
theorem dX8_isInSafe_10 : decode cX8_isInSafe 10 = .ok (.aload_n 0, 1) := by decide +kernel
theorem dX8_isInSafe_11 : decode cX8_isInSafe 11 = .ok (.iload_n 1, 1) := by decide +kernel
theorem dX8_isInSafe_12 : decode cX8_isInSafe 12 = .ok (.invokevirtual 84, 3) := by decide +kernel
theorem dX8_isInSafe_15 : decode cX8_isInSafe 15 = .ok (.ifCond .eq 17, 3) := by decide +kernel
theorem dX8_isInSafe_18 : decode cX8_isInSafe 18 = .ok (.aload_n 0, 1) := by decide +kernel
theorem dX8_isInSafe_19 : decode cX8_isInSafe 19 = .ok (.iload_n 1, 1) := by decide +kernel
theorem dX8_isInSafe_20 : decode cX8_isInSafe 20 = .ok (.iconst 2, 1) := by decide +kernel
theorem dX8_isInSafe_21 : decode cX8_isInSafe 21 = .ok (.invokevirtual 44, 3) := by decide +kernel
theorem dX8_isInSafe_24 : decode cX8_isInSafe 24 = .ok (.iload_n 2, 1) := by decide +kernel
theorem dX8_isInSafe_25 : decode cX8_isInSafe 25 = .ok (.if_icmp .ne 7, 3) := by decide +kernel
theorem dX8_isInSafe_28 : decode cX8_isInSafe 28 = .ok (.iconst 1, 1) := by decide +kernel
theorem dX8_isInSafe_29 : decode cX8_isInSafe 29 = .ok (.goto 4, 3) := by decide +kernel
theorem dX8_isInSafe_32 : decode cX8_isInSafe 32 = .ok (.iconst 0, 1) := by decide +kernel
theorem dX8_isInSafe_33 : decode cX8_isInSafe 33 = .ok (.ireturn, 1) := by decide +kernel
theorem dX8_isHad_0 : decode cX8_isHad 0 = .ok (.iload_n 3, 1) := by decide +kernel
theorem dX8_isHad_1 : decode cX8_isHad 1 = .ok (.bipush (-6), 2) := by decide +kernel
theorem dX8_isHad_3 : decode cX8_isHad 3 = .ok (.if_icmp .ne 12, 3) := by decide +kernel
theorem dX8_isHad_6 : decode cX8_isHad 6 = .ok (.aload_n 0, 1) := by decide +kernel
theorem dX8_isHad_7 : decode cX8_isHad 7 = .ok (.iload_n 1, 1) := by decide +kernel
theorem dX8_isHad_8 : decode cX8_isHad 8 = .ok (.iload_n 2, 1) := by decide +kernel
theorem dX8_isHad_9 : decode cX8_isHad 9 = .ok (.invokevirtual 87, 3) := by decide +kernel
theorem dX8_isHad_12 : decode cX8_isHad 12 = .ok (.goto 19, 3) := by decide +kernel
theorem dX8_isHad_15 : decode cX8_isHad 15 = .ok (.iload_n 1, 1) := by decide +kernel
theorem dX8_isHad_16 : decode cX8_isHad 16 = .ok (.iload_n 3, 1) := by decide +kernel
theorem dX8_isHad_17 : decode cX8_isHad 17 = .ok (.if_icmp .ne 13, 3) := by decide +kernel
theorem dX8_isHad_20 : decode cX8_isHad 20 = .ok (.iload_n 2, 1) := by decide +kernel
theorem dX8_isHad_21 : decode cX8_isHad 21 = .ok (.iload 4, 2) := by decide +kernel
theorem dX8_isHad_23 : decode cX8_isHad 23 = .ok (.if_icmp .ne 7, 3) := by decide +kernel
theorem dX8_isHad_26 : decode cX8_isHad 26 = .ok (.iconst 1, 1) := by decide +kernel
theorem dX8_isHad_27 : decode cX8_isHad 27 = .ok (.goto 4, 3) := by decide +kernel
theorem dX8_isHad_30 : decode cX8_isHad 30 = .ok (.iconst 0, 1) := by decide +kernel
theorem dX8_isHad_31 : decode cX8_isHad 31 = .ok (.istore 5, 2) := by decide +kernel
theorem dX8_isHad_33 : decode cX8_isHad 33 = .ok (.iconst 0, 1) := by decide +kernel
theorem dX8_isHad_34 : decode cX8_isHad 34 = .ok (.istore 6, 2) := by decide +kernel
theorem dX8_isHad_36 : decode cX8_isHad 36 = .ok (.iload 6, 2) := by decide +kernel
theorem dX8_isHad_38 : decode cX8_isHad 38 = .ok (.aload_n 0, 1) := by decide +kernel
theorem dX8_isHad_39 : decode cX8_isHad 39 = .ok (.getfield 7, 3) := by decide +kernel
theorem dX8_isHad_42 : decode cX8_isHad 42 = .ok (.iconst 3, 1) := by decide +kernel
theorem dX8_isHad_43 : decode cX8_isHad 43 = .ok (.iaload, 1) := by decide +kernel
theorem dX8_isHad_44 : decode cX8_isHad 44 = .ok (.if_icmp .ge 54, 3) := by decide +kernel
theorem dX8_isHad_47 : decode cX8_isHad 47 = .ok (.iload 5, 2) := by decide +kernel
theorem dX8_isHad_49 : decode cX8_isHad 49 = .ok (.ifCond .ne 49, 3) := by decide +kernel
theorem dX8_isHad_52 : decode cX8_isHad 52 = .ok (.aload_n 0, 1) := by decide +kernel
theorem dX8_isHad_53 : decode cX8_isHad 53 = .ok (.getfield 25, 3) := by decide +kernel
theorem dX8_isHad_56 : decode cX8_isHad 56 = .ok (.iload 6, 2) := by decide +kernel
theorem dX8_isHad_58 : decode cX8_isHad 58 = .ok (.iaload, 1) := by decide +kernel
theorem dX8_isHad_59 : decode cX8_isHad 59 = .ok (.iconst 1, 1) := by decide +kernel
theorem dX8_isHad_60 : decode cX8_isHad 60 = .ok (.if_icmp .ne 29, 3) := by decide +kernel
theorem dX8_isHad_63 : decode cX8_isHad 63 = .ok (.aload_n 0, 1) := by decide +kernel
theorem dX8_isHad_64 : decode cX8_isHad 64 = .ok (.iload 6, 2) := by decide +kernel
theorem dX8_isHad_66 : decode cX8_isHad 66 = .ok (.iconst 0, 1) := by decide +kernel
theorem dX8_isHad_67 : decode cX8_isHad 67 = .ok (.invokevirtual 81, 3) := by decide +kernel
theorem dX8_isHad_70 : decode cX8_isHad 70 = .ok (.iload_n 1, 1) := by decide +kernel
theorem dX8_isHad_71 : decode cX8_isHad 71 = .ok (.if_icmp .ne 18, 3) := by decide +kernel
theorem dX8_isHad_74 : decode cX8_isHad 74 = .ok (.aload_n 0, 1) := by decide +kernel
theorem dX8_isHad_75 : decode cX8_isHad 75 = .ok (.iload 6, 2) := by decide +kernel
theorem dX8_isHad_77 : decode cX8_isHad 77 = .ok (.iconst 1, 1) := by decide +kernel
theorem dX8_isHad_78 : decode cX8_isHad 78 = .ok (.invokevirtual 81, 3) := by decide +kernel
theorem dX8_isHad_81 : decode cX8_isHad 81 = .ok (.iload_n 2, 1) := by decide +kernel
theorem dX8_isHad_82 : decode cX8_isHad 82 = .ok (.if_icmp .ne 7, 3) := by decide +kernel
theorem dX8_isHad_85 : decode cX8_isHad 85 = .ok (.iconst 1, 1) := by decide +kernel
theorem dX8_isHad_86 : decode cX8_isHad 86 = .ok (.goto 4, 3) := by decide +kernel
theorem dX8_isHad_89 : decode cX8_isHad 89 = .ok (.iconst 0, 1) := by decide +kernel
theorem dX8_isHad_90 : decode cX8_isHad 90 = .ok (.istore 5, 2) := by decide +kernel
theorem dX8_isHad_92 : decode cX8_isHad 92 = .ok (.iinc 6 1, 3) := by decide +kernel
theorem dX8_isHad_95 : decode cX8_isHad 95 = .ok (.goto (-59), 3) := by decide +kernel
theorem dX8_isHad_98 : decode cX8_isHad 98 = .ok (.iload 5, 2) := by decide +kernel
theorem dX8_isHad_100 : decode cX8_isHad 100 = .ok (.ireturn, 1) := by decide +kernel
theorem dX8_open_0 : decode cX8_open 0 = .ok (.iconst 0, 1) := by decide +kernel
theorem dX8_open_1 : decode cX8_open 1 = .ok (.istore 4, 2) := by decide +kernel
theorem dX8_open_3 : decode cX8_open 3 = .ok (.iload 4, 2) := by decide +kernel
theorem dX8_open_5 : decode cX8_open 5 = .ok (.aload_n 0, 1) := by decide +kernel
theorem dX8_open_6 : decode cX8_open 6 = .ok (.getfield 7, 3) := by decide +kernel
theorem dX8_open_9 : decode cX8_open 9 = .ok (.iconst 3, 1) := by decide +kernel
theorem dX8_open_10 : decode cX8_open 10 = .ok (.iaload, 1) := by decide +kernel
theorem dX8_open_11 : decode cX8_open 11 = .ok (.if_icmp .ge 17, 3) := by decide +kernel
theorem dX8_open_14 : decode cX8_open 14 = .ok (.aload_n 0, 1) := by decide +kernel
theorem dX8_open_15 : decode cX8_open 15 = .ok (.getfield 25, 3) := by decide +kernel
theorem dX8_open_18 : decode cX8_open 18 = .ok (.iload 4, 2) := by decide +kernel
theorem dX8_open_20 : decode cX8_open 20 = .ok (.iconst 0, 1) := by decide +kernel
theorem dX8_open_21 : decode cX8_open 21 = .ok (.iastore, 1) := by decide +kernel
theorem dX8_open_22 : decode cX8_open 22 = .ok (.iinc 4 1, 3) := by decide +kernel
theorem dX8_open_25 : decode cX8_open 25 = .ok (.goto (-22), 3) := by decide +kernel
theorem dX8_open_28 : decode cX8_open 28 = .ok (.iconst 1, 1) := by decide +kernel
theorem dX8_open_29 : decode cX8_open 29 = .ok (.istore 4, 2) := by decide +kernel
theorem dX8_open_31 : decode cX8_open 31 = .ok (.iload 4, 2) := by decide +kernel
theorem dX8_open_33 : decode cX8_open 33 = .ok (.ifCond .eq 114, 3) := by decide +kernel
theorem dX8_open_36 : decode cX8_open 36 = .ok (.iconst 0, 1) := by decide +kernel
theorem dX8_open_37 : decode cX8_open 37 = .ok (.istore 4, 2) := by decide +kernel
theorem dX8_open_39 : decode cX8_open 39 = .ok (.iconst 0, 1) := by decide +kernel
theorem dX8_open_40 : decode cX8_open 40 = .ok (.istore 5, 2) := by decide +kernel
theorem dX8_open_42 : decode cX8_open 42 = .ok (.iload 5, 2) := by decide +kernel
theorem dX8_open_44 : decode cX8_open 44 = .ok (.aload_n 0, 1) := by decide +kernel
theorem dX8_open_45 : decode cX8_open 45 = .ok (.getfield 7, 3) := by decide +kernel
theorem dX8_open_48 : decode cX8_open 48 = .ok (.iconst 3, 1) := by decide +kernel
theorem dX8_open_49 : decode cX8_open 49 = .ok (.iaload, 1) := by decide +kernel
theorem dX8_open_50 : decode cX8_open 50 = .ok (.if_icmp .ge 94, 3) := by decide +kernel
theorem dX8_open_53 : decode cX8_open 53 = .ok (.aload_n 0, 1) := by decide +kernel
theorem dX8_open_54 : decode cX8_open 54 = .ok (.iload 5, 2) := by decide +kernel
theorem dX8_open_56 : decode cX8_open 56 = .ok (.iconst 5, 1) := by decide +kernel
theorem dX8_open_57 : decode cX8_open 57 = .ok (.invokevirtual 81, 3) := by decide +kernel
theorem dX8_open_60 : decode cX8_open 60 = .ok (.iload_n 1, 1) := by decide +kernel
theorem dX8_open_61 : decode cX8_open 61 = .ok (.iand, 1) := by decide +kernel
theorem dX8_open_62 : decode cX8_open 62 = .ok (.ifCond .ne 20, 3) := by decide +kernel
theorem dX8_open_65 : decode cX8_open 65 = .ok (.iload_n 2, 1) := by decide +kernel
theorem dX8_open_66 : decode cX8_open 66 = .ok (.bipush (-6), 2) := by decide +kernel
theorem dX8_open_68 : decode cX8_open 68 = .ok (.if_icmp .ne 18, 3) := by decide +kernel
theorem dX8_open_71 : decode cX8_open 71 = .ok (.aload_n 0, 1) := by decide +kernel
theorem dX8_open_72 : decode cX8_open 72 = .ok (.iload 5, 2) := by decide +kernel
theorem dX8_open_74 : decode cX8_open 74 = .ok (.iconst 4, 1) := by decide +kernel
theorem dX8_open_75 : decode cX8_open 75 = .ok (.invokevirtual 81, 3) := by decide +kernel
theorem dX8_open_78 : decode cX8_open 78 = .ok (.iconst 1, 1) := by decide +kernel
theorem dX8_open_79 : decode cX8_open 79 = .ok (.if_icmp .ne 7, 3) := by decide +kernel
theorem dX8_open_82 : decode cX8_open 82 = .ok (.iconst 1, 1) := by decide +kernel
theorem dX8_open_83 : decode cX8_open 83 = .ok (.goto 4, 3) := by decide +kernel
theorem dX8_open_86 : decode cX8_open 86 = .ok (.iconst 0, 1) := by decide +kernel
theorem dX8_open_87 : decode cX8_open 87 = .ok (.istore 6, 2) := by decide +kernel
theorem dX8_open_89 : decode cX8_open 89 = .ok (.aload_n 0, 1) := by decide +kernel
theorem dX8_open_90 : decode cX8_open 90 = .ok (.getfield 25, 3) := by decide +kernel
theorem dX8_open_93 : decode cX8_open 93 = .ok (.iload 5, 2) := by decide +kernel
theorem dX8_open_95 : decode cX8_open 95 = .ok (.iaload, 1) := by decide +kernel
theorem dX8_open_96 : decode cX8_open 96 = .ok (.ifCond .ne 42, 3) := by decide +kernel
theorem dX8_open_99 : decode cX8_open 99 = .ok (.iload 6, 2) := by decide +kernel
theorem dX8_open_101 : decode cX8_open 101 = .ok (.ifCond .eq 37, 3) := by decide +kernel
theorem dX8_open_104 : decode cX8_open 104 = .ok (.aload_n 0, 1) := by decide +kernel
theorem dX8_open_105 : decode cX8_open 105 = .ok (.aload_n 0, 1) := by decide +kernel
theorem dX8_open_106 : decode cX8_open 106 = .ok (.iload 5, 2) := by decide +kernel
theorem dX8_open_108 : decode cX8_open 108 = .ok (.iconst 2, 1) := by decide +kernel
theorem dX8_open_109 : decode cX8_open 109 = .ok (.invokevirtual 81, 3) := by decide +kernel
theorem dX8_open_112 : decode cX8_open 112 = .ok (.aload_n 0, 1) := by decide +kernel
theorem dX8_open_113 : decode cX8_open 113 = .ok (.iload 5, 2) := by decide +kernel
theorem dX8_open_115 : decode cX8_open 115 = .ok (.iconst 3, 1) := by decide +kernel
theorem dX8_open_116 : decode cX8_open 116 = .ok (.invokevirtual 81, 3) := by decide +kernel
theorem dX8_open_119 : decode cX8_open 119 = .ok (.iload_n 2, 1) := by decide +kernel
theorem dX8_open_120 : decode cX8_open 120 = .ok (.iload_n 3, 1) := by decide +kernel
theorem dX8_open_121 : decode cX8_open 121 = .ok (.invokevirtual 91, 3) := by decide +kernel
theorem dX8_open_124 : decode cX8_open 124 = .ok (.ifCond .eq 14, 3) := by decide +kernel
theorem dX8_open_127 : decode cX8_open 127 = .ok (.aload_n 0, 1) := by decide +kernel
theorem dX8_open_128 : decode cX8_open 128 = .ok (.getfield 25, 3) := by decide +kernel
theorem dX8_open_131 : decode cX8_open 131 = .ok (.iload 5, 2) := by decide +kernel
theorem dX8_open_133 : decode cX8_open 133 = .ok (.iconst 1, 1) := by decide +kernel
theorem dX8_open_134 : decode cX8_open 134 = .ok (.iastore, 1) := by decide +kernel
theorem dX8_open_135 : decode cX8_open 135 = .ok (.iconst 1, 1) := by decide +kernel
theorem dX8_open_136 : decode cX8_open 136 = .ok (.istore 4, 2) := by decide +kernel
theorem dX8_open_138 : decode cX8_open 138 = .ok (.iinc 5 1, 3) := by decide +kernel
theorem dX8_open_141 : decode cX8_open 141 = .ok (.goto (-99), 3) := by decide +kernel
theorem dX8_open_144 : decode cX8_open 144 = .ok (.goto (-113), 3) := by decide +kernel
theorem dX8_open_147 : decode cX8_open 147 = .ok (.return_, 1) := by decide +kernel
theorem dX8_openBoxes_0 : decode cX8_openBoxes 0 = .ok (.iconst 0, 1) := by decide +kernel
theorem dX8_openBoxes_1 : decode cX8_openBoxes 1 = .ok (.istore_n 1, 1) := by decide +kernel
theorem dX8_openBoxes_2 : decode cX8_openBoxes 2 = .ok (.iconst 0, 1) := by decide +kernel
theorem dX8_openBoxes_3 : decode cX8_openBoxes 3 = .ok (.istore_n 2, 1) := by decide +kernel
theorem dX8_openBoxes_4 : decode cX8_openBoxes 4 = .ok (.iload_n 2, 1) := by decide +kernel
theorem dX8_openBoxes_5 : decode cX8_openBoxes 5 = .ok (.aload_n 0, 1) := by decide +kernel
theorem dX8_openBoxes_6 : decode cX8_openBoxes 6 = .ok (.getfield 7, 3) := by decide +kernel
theorem dX8_openBoxes_9 : decode cX8_openBoxes 9 = .ok (.iconst 3, 1) := by decide +kernel
theorem dX8_openBoxes_10 : decode cX8_openBoxes 10 = .ok (.iaload, 1) := by decide +kernel
theorem dX8_openBoxes_11 : decode cX8_openBoxes 11 = .ok (.if_icmp .ge 45, 3) := by decide +kernel
theorem dX8_openBoxes_14 : decode cX8_openBoxes 14 = .ok (.iload_n 1, 1) := by decide +kernel
theorem dX8_openBoxes_15 : decode cX8_openBoxes 15 = .ok (.aload_n 0, 1) := by decide +kernel
theorem dX8_openBoxes_16 : decode cX8_openBoxes 16 = .ok (.getfield 25, 3) := by decide +kernel
theorem dX8_openBoxes_19 : decode cX8_openBoxes 19 = .ok (.iload_n 2, 1) := by decide +kernel
theorem dX8_openBoxes_20 : decode cX8_openBoxes 20 = .ok (.iaload, 1) := by decide +kernel
theorem dX8_openBoxes_21 : decode cX8_openBoxes 21 = .ok (.iconst 1, 1) := by decide +kernel
theorem dX8_openBoxes_22 : decode cX8_openBoxes 22 = .ok (.if_icmp .ne 25, 3) := by decide +kernel
theorem dX8_openBoxes_25 : decode cX8_openBoxes 25 = .ok (.aload_n 0, 1) := by decide +kernel
theorem dX8_openBoxes_26 : decode cX8_openBoxes 26 = .ok (.iload_n 2, 1) := by decide +kernel
theorem dX8_openBoxes_27 : decode cX8_openBoxes 27 = .ok (.iconst 0, 1) := by decide +kernel
theorem dX8_openBoxes_28 : decode cX8_openBoxes 28 = .ok (.invokevirtual 81, 3) := by decide +kernel
theorem dX8_openBoxes_31 : decode cX8_openBoxes 31 = .ok (.bipush (-6), 2) := by decide +kernel
theorem dX8_openBoxes_33 : decode cX8_openBoxes 33 = .ok (.if_icmp .ne 14, 3) := by decide +kernel
theorem dX8_openBoxes_36 : decode cX8_openBoxes 36 = .ok (.iconst 1, 1) := by decide +kernel
theorem dX8_openBoxes_37 : decode cX8_openBoxes 37 = .ok (.aload_n 0, 1) := by decide +kernel
theorem dX8_openBoxes_38 : decode cX8_openBoxes 38 = .ok (.iload_n 2, 1) := by decide +kernel
theorem dX8_openBoxes_39 : decode cX8_openBoxes 39 = .ok (.iconst 1, 1) := by decide +kernel
theorem dX8_openBoxes_40 : decode cX8_openBoxes 40 = .ok (.invokevirtual 81, 3) := by decide +kernel
theorem dX8_openBoxes_43 : decode cX8_openBoxes 43 = .ok (.ishl, 1) := by decide +kernel
theorem dX8_openBoxes_44 : decode cX8_openBoxes 44 = .ok (.goto 4, 3) := by decide +kernel
theorem dX8_openBoxes_47 : decode cX8_openBoxes 47 = .ok (.iconst 0, 1) := by decide +kernel
theorem dX8_openBoxes_48 : decode cX8_openBoxes 48 = .ok (.ior, 1) := by decide +kernel
theorem dX8_openBoxes_49 : decode cX8_openBoxes 49 = .ok (.istore_n 1, 1) := by decide +kernel
theorem dX8_openBoxes_50 : decode cX8_openBoxes 50 = .ok (.iinc 2 1, 3) := by decide +kernel
theorem dX8_openBoxes_53 : decode cX8_openBoxes 53 = .ok (.goto (-49), 3) := by decide +kernel
theorem dX8_openBoxes_56 : decode cX8_openBoxes 56 = .ok (.iload_n 1, 1) := by decide +kernel
theorem dX8_openBoxes_57 : decode cX8_openBoxes 57 = .ok (.ireturn, 1) := by decide +kernel
theorem dX8_openWith_0 : decode cX8_openWith 0 = .ok (.aload_n 0, 1) := by decide +kernel
theorem dX8_openWith_1 : decode cX8_openWith 1 = .ok (.iload_n 1, 1) := by decide +kernel
theorem dX8_openWith_2 : decode cX8_openWith 2 = .ok (.bipush (-6), 2) := by decide +kernel
theorem dX8_openWith_4 : decode cX8_openWith 4 = .ok (.iconst 0, 1) := by decide +kernel
theorem dX8_openWith_5 : decode cX8_openWith 5 = .ok (.invokevirtual 95, 3) := by decide +kernel
theorem dX8_openWith_8 : decode cX8_openWith 8 = .ok (.aload_n 0, 1) := by decide +kernel
theorem dX8_openWith_9 : decode cX8_openWith 9 = .ok (.invokevirtual 98, 3) := by decide +kernel
theorem dX8_openWith_12 : decode cX8_openWith 12 = .ok (.ireturn, 1) := by decide +kernel
theorem dX8_wear_0 : decode cX8_wear 0 = .ok (.iload_n 1, 1) := by decide +kernel
theorem dX8_wear_1 : decode cX8_wear 1 = .ok (.iconst 2, 1) := by decide +kernel
theorem dX8_wear_2 : decode cX8_wear 2 = .ok (.bipush 30, 2) := by decide +kernel
theorem dX8_wear_4 : decode cX8_wear 4 = .ok (.invokestatic 36, 3) := by decide +kernel
theorem dX8_wear_7 : decode cX8_wear 7 = .ok (.ifCond .ne 6, 3) := by decide +kernel
theorem dX8_wear_10 : decode cX8_wear 10 = .ok (.bipush (-2), 2) := by decide +kernel
theorem dX8_wear_12 : decode cX8_wear 12 = .ok (.ireturn, 1) := by decide +kernel
theorem dX8_wear_13 : decode cX8_wear 13 = .ok (.aload_n 0, 1) := by decide +kernel
theorem dX8_wear_14 : decode cX8_wear 14 = .ok (.invokevirtual 102, 3) := by decide +kernel
theorem dX8_wear_17 : decode cX8_wear 17 = .ok (.aload_n 0, 1) := by decide +kernel
theorem dX8_wear_18 : decode cX8_wear 18 = .ok (.getfield 7, 3) := by decide +kernel
theorem dX8_wear_21 : decode cX8_wear 21 = .ok (.iconst 0, 1) := by decide +kernel
theorem dX8_wear_22 : decode cX8_wear 22 = .ok (.iaload, 1) := by decide +kernel
theorem dX8_wear_23 : decode cX8_wear 23 = .ok (.istore_n 2, 1) := by decide +kernel
theorem dX8_wear_24 : decode cX8_wear 24 = .ok (.aload_n 0, 1) := by decide +kernel
theorem dX8_wear_25 : decode cX8_wear 25 = .ok (.getfield 7, 3) := by decide +kernel
theorem dX8_wear_28 : decode cX8_wear 28 = .ok (.iconst 0, 1) := by decide +kernel
theorem dX8_wear_29 : decode cX8_wear 29 = .ok (.iload_n 1, 1) := by decide +kernel
theorem dX8_wear_30 : decode cX8_wear 30 = .ok (.iastore, 1) := by decide +kernel
theorem dX8_wear_31 : decode cX8_wear 31 = .ok (.iload_n 2, 1) := by decide +kernel
theorem dX8_wear_32 : decode cX8_wear 32 = .ok (.ireturn, 1) := by decide +kernel
theorem dX8_whyNoKey_0 : decode cX8_whyNoKey 0 = .ok (.iload_n 1, 1) := by decide +kernel
theorem dX8_whyNoKey_1 : decode cX8_whyNoKey 1 = .ok (.bipush (-6), 2) := by decide +kernel
theorem dX8_whyNoKey_3 : decode cX8_whyNoKey 3 = .ok (.if_icmp .eq 13, 3) := by decide +kernel
theorem dX8_whyNoKey_6 : decode cX8_whyNoKey 6 = .ok (.aload_n 0, 1) := by decide +kernel
theorem dX8_whyNoKey_7 : decode cX8_whyNoKey 7 = .ok (.iload_n 1, 1) := by decide +kernel
theorem dX8_whyNoKey_8 : decode cX8_whyNoKey 8 = .ok (.invokevirtual 105, 3) := by decide +kernel
theorem dX8_whyNoKey_11 : decode cX8_whyNoKey 11 = .ok (.ifCond .ne 5, 3) := by decide +kernel
theorem dX8_whyNoKey_14 : decode cX8_whyNoKey 14 = .ok (.iconst (-1), 1) := by decide +kernel
theorem dX8_whyNoKey_15 : decode cX8_whyNoKey 15 = .ok (.ireturn, 1) := by decide +kernel
theorem dX8_whyNoKey_16 : decode cX8_whyNoKey 16 = .ok (.aload_n 0, 1) := by decide +kernel
theorem dX8_whyNoKey_17 : decode cX8_whyNoKey 17 = .ok (.getfield 7, 3) := by decide +kernel
theorem dX8_whyNoKey_20 : decode cX8_whyNoKey 20 = .ok (.iconst 1, 1) := by decide +kernel
theorem dX8_whyNoKey_21 : decode cX8_whyNoKey 21 = .ok (.iaload, 1) := by decide +kernel
theorem dX8_whyNoKey_22 : decode cX8_whyNoKey 22 = .ok (.bipush 20, 2) := by decide +kernel
theorem dX8_whyNoKey_24 : decode cX8_whyNoKey 24 = .ok (.if_icmp .eq 20, 3) := by decide +kernel
theorem dX8_whyNoKey_27 : decode cX8_whyNoKey 27 = .ok (.iload_n 1, 1) := by decide +kernel
theorem dX8_whyNoKey_28 : decode cX8_whyNoKey 28 = .ok (.bipush (-6), 2) := by decide +kernel
theorem dX8_whyNoKey_30 : decode cX8_whyNoKey 30 = .ok (.if_icmp .eq 17, 3) := by decide +kernel
theorem dX8_whyNoKey_33 : decode cX8_whyNoKey 33 = .ok (.aload_n 0, 1) := by decide +kernel
theorem dX8_whyNoKey_34 : decode cX8_whyNoKey 34 = .ok (.getfield 7, 3) := by decide +kernel
theorem dX8_whyNoKey_37 : decode cX8_whyNoKey 37 = .ok (.iconst 3, 1) := by decide +kernel
theorem dX8_whyNoKey_38 : decode cX8_whyNoKey 38 = .ok (.iaload, 1) := by decide +kernel
theorem dX8_whyNoKey_39 : decode cX8_whyNoKey 39 = .ok (.bipush 120, 2) := by decide +kernel
theorem dX8_whyNoKey_41 : decode cX8_whyNoKey 41 = .ok (.if_icmp .ne 6, 3) := by decide +kernel
theorem dX8_whyNoKey_44 : decode cX8_whyNoKey 44 = .ok (.bipush (-4), 2) := by decide +kernel
theorem dX8_whyNoKey_46 : decode cX8_whyNoKey 46 = .ok (.ireturn, 1) := by decide +kernel
theorem dX8_whyNoKey_47 : decode cX8_whyNoKey 47 = .ok (.iload_n 1, 1) := by decide +kernel
theorem dX8_whyNoKey_48 : decode cX8_whyNoKey 48 = .ok (.bipush (-6), 2) := by decide +kernel
theorem dX8_whyNoKey_50 : decode cX8_whyNoKey 50 = .ok (.if_icmp .eq 16, 3) := by decide +kernel
theorem dX8_whyNoKey_53 : decode cX8_whyNoKey 53 = .ok (.aload_n 0, 1) := by decide +kernel
theorem dX8_whyNoKey_54 : decode cX8_whyNoKey 54 = .ok (.iload_n 1, 1) := by decide +kernel
theorem dX8_whyNoKey_55 : decode cX8_whyNoKey 55 = .ok (.invokevirtual 108, 3) := by decide +kernel
theorem dX8_whyNoKey_58 : decode cX8_whyNoKey 58 = .ok (.ifCond .ne 8, 3) := by decide +kernel
theorem dX8_whyNoKey_61 : decode cX8_whyNoKey 61 = .ok (.bipush (-5), 2) := by decide +kernel
theorem dX8_whyNoKey_63 : decode cX8_whyNoKey 63 = .ok (.goto 4, 3) := by decide +kernel
theorem dX8_whyNoKey_66 : decode cX8_whyNoKey 66 = .ok (.iconst 0, 1) := by decide +kernel
theorem dX8_whyNoKey_67 : decode cX8_whyNoKey 67 = .ok (.ireturn, 1) := by decide +kernel
theorem dX8_makeKey_0 : decode cX8_makeKey 0 = .ok (.aload_n 0, 1) := by decide +kernel
theorem dX8_makeKey_1 : decode cX8_makeKey 1 = .ok (.getfield 7, 3) := by decide +kernel
theorem dX8_makeKey_4 : decode cX8_makeKey 4 = .ok (.iconst 1, 1) := by decide +kernel
theorem dX8_makeKey_5 : decode cX8_makeKey 5 = .ok (.iaload, 1) := by decide +kernel
theorem dX8_makeKey_6 : decode cX8_makeKey 6 = .ok (.istore_n 2, 1) := by decide +kernel
theorem dX8_makeKey_7 : decode cX8_makeKey 7 = .ok (.aload_n 0, 1) := by decide +kernel
theorem dX8_makeKey_8 : decode cX8_makeKey 8 = .ok (.iload_n 2, 1) := by decide +kernel
theorem dX8_makeKey_9 : decode cX8_makeKey 9 = .ok (.iconst 0, 1) := by decide +kernel
theorem dX8_makeKey_10 : decode cX8_makeKey 10 = .ok (.iload_n 1, 1) := by decide +kernel
theorem dX8_makeKey_11 : decode cX8_makeKey 11 = .ok (.invokevirtual 68, 3) := by decide +kernel
theorem dX8_makeKey_14 : decode cX8_makeKey 14 = .ok (.aload_n 0, 1) := by decide +kernel
theorem dX8_makeKey_15 : decode cX8_makeKey 15 = .ok (.iload_n 2, 1) := by decide +kernel
theorem dX8_makeKey_16 : decode cX8_makeKey 16 = .ok (.iconst 1, 1) := by decide +kernel
theorem dX8_makeKey_17 : decode cX8_makeKey 17 = .ok (.iconst 1, 1) := by decide +kernel
theorem dX8_makeKey_18 : decode cX8_makeKey 18 = .ok (.invokevirtual 68, 3) := by decide +kernel
theorem dX8_makeKey_21 : decode cX8_makeKey 21 = .ok (.aload_n 0, 1) := by decide +kernel
theorem dX8_makeKey_22 : decode cX8_makeKey 22 = .ok (.iload_n 2, 1) := by decide +kernel
theorem dX8_makeKey_23 : decode cX8_makeKey 23 = .ok (.iconst 2, 1) := by decide +kernel
theorem dX8_makeKey_24 : decode cX8_makeKey 24 = .ok (.iconst 0, 1) := by decide +kernel
theorem dX8_makeKey_25 : decode cX8_makeKey 25 = .ok (.invokevirtual 68, 3) := by decide +kernel
theorem dX8_makeKey_28 : decode cX8_makeKey 28 = .ok (.aload_n 0, 1) := by decide +kernel
theorem dX8_makeKey_29 : decode cX8_makeKey 29 = .ok (.iload_n 2, 1) := by decide +kernel
theorem dX8_makeKey_30 : decode cX8_makeKey 30 = .ok (.iconst 3, 1) := by decide +kernel
theorem dX8_makeKey_31 : decode cX8_makeKey 31 = .ok (.iconst 0, 1) := by decide +kernel
theorem dX8_makeKey_32 : decode cX8_makeKey 32 = .ok (.invokevirtual 68, 3) := by decide +kernel
theorem dX8_makeKey_35 : decode cX8_makeKey 35 = .ok (.aload_n 0, 1) := by decide +kernel
theorem dX8_makeKey_36 : decode cX8_makeKey 36 = .ok (.getfield 7, 3) := by decide +kernel
theorem dX8_makeKey_39 : decode cX8_makeKey 39 = .ok (.iconst 1, 1) := by decide +kernel
theorem dX8_makeKey_40 : decode cX8_makeKey 40 = .ok (.dup2, 1) := by decide +kernel
theorem dX8_makeKey_41 : decode cX8_makeKey 41 = .ok (.iaload, 1) := by decide +kernel
theorem dX8_makeKey_42 : decode cX8_makeKey 42 = .ok (.iconst 1, 1) := by decide +kernel
theorem dX8_makeKey_43 : decode cX8_makeKey 43 = .ok (.iadd, 1) := by decide +kernel
theorem dX8_makeKey_44 : decode cX8_makeKey 44 = .ok (.iastore, 1) := by decide +kernel
theorem dX8_makeKey_45 : decode cX8_makeKey 45 = .ok (.iload_n 1, 1) := by decide +kernel
theorem dX8_makeKey_46 : decode cX8_makeKey 46 = .ok (.bipush (-6), 2) := by decide +kernel
theorem dX8_makeKey_48 : decode cX8_makeKey 48 = .ok (.if_icmp .eq 8, 3) := by decide +kernel
theorem dX8_makeKey_51 : decode cX8_makeKey 51 = .ok (.aload_n 0, 1) := by decide +kernel
theorem dX8_makeKey_52 : decode cX8_makeKey 52 = .ok (.iload_n 2, 1) := by decide +kernel
theorem dX8_makeKey_53 : decode cX8_makeKey 53 = .ok (.invokevirtual 74, 3) := by decide +kernel
theorem dX8_makeKey_56 : decode cX8_makeKey 56 = .ok (.iload_n 2, 1) := by decide +kernel
theorem dX8_makeKey_57 : decode cX8_makeKey 57 = .ok (.ireturn, 1) := by decide +kernel
theorem dX8_key_0 : decode cX8_key 0 = .ok (.aload_n 0, 1) := by decide +kernel
theorem dX8_key_1 : decode cX8_key 1 = .ok (.iload_n 1, 1) := by decide +kernel
theorem dX8_key_2 : decode cX8_key 2 = .ok (.invokevirtual 111, 3) := by decide +kernel
theorem dX8_key_5 : decode cX8_key 5 = .ok (.istore_n 2, 1) := by decide +kernel
theorem dX8_key_6 : decode cX8_key 6 = .ok (.iload_n 2, 1) := by decide +kernel
theorem dX8_key_7 : decode cX8_key 7 = .ok (.ifCond .ge 5, 3) := by decide +kernel
theorem dX8_key_10 : decode cX8_key 10 = .ok (.iload_n 2, 1) := by decide +kernel
theorem dX8_key_11 : decode cX8_key 11 = .ok (.ireturn, 1) := by decide +kernel
theorem dX8_key_12 : decode cX8_key 12 = .ok (.aload_n 0, 1) := by decide +kernel
theorem dX8_key_13 : decode cX8_key 13 = .ok (.invokevirtual 102, 3) := by decide +kernel
theorem dX8_key_16 : decode cX8_key 16 = .ok (.aload_n 0, 1) := by decide +kernel
theorem dX8_key_17 : decode cX8_key 17 = .ok (.iload_n 1, 1) := by decide +kernel
theorem dX8_key_18 : decode cX8_key 18 = .ok (.invokevirtual 114, 3) := by decide +kernel
theorem dX8_key_21 : decode cX8_key 21 = .ok (.ireturn, 1) := by decide +kernel
theorem dX8_whyNoBox_0 : decode cX8_whyNoBox 0 = .ok (.aload_n 0, 1) := by decide +kernel
theorem dX8_whyNoBox_1 : decode cX8_whyNoBox 1 = .ok (.iload_n 1, 1) := by decide +kernel
theorem dX8_whyNoBox_2 : decode cX8_whyNoBox 2 = .ok (.invokevirtual 105, 3) := by decide +kernel
theorem dX8_whyNoBox_5 : decode cX8_whyNoBox 5 = .ok (.ifCond .ne 5, 3) := by decide +kernel
theorem dX8_whyNoBox_8 : decode cX8_whyNoBox 8 = .ok (.iconst (-1), 1) := by decide +kernel
theorem dX8_whyNoBox_9 : decode cX8_whyNoBox 9 = .ok (.ireturn, 1) := by decide +kernel
theorem dX8_whyNoBox_10 : decode cX8_whyNoBox 10 = .ok (.aload_n 0, 1) := by decide +kernel
theorem dX8_whyNoBox_11 : decode cX8_whyNoBox 11 = .ok (.getfield 7, 3) := by decide +kernel
theorem dX8_whyNoBox_14 : decode cX8_whyNoBox 14 = .ok (.iconst 2, 1) := by decide +kernel
theorem dX8_whyNoBox_15 : decode cX8_whyNoBox 15 = .ok (.iaload, 1) := by decide +kernel
theorem dX8_whyNoBox_16 : decode cX8_whyNoBox 16 = .ok (.bipush 20, 2) := by decide +kernel
theorem dX8_whyNoBox_18 : decode cX8_whyNoBox 18 = .ok (.if_icmp .eq 14, 3) := by decide +kernel
theorem dX8_whyNoBox_21 : decode cX8_whyNoBox 21 = .ok (.aload_n 0, 1) := by decide +kernel
theorem dX8_whyNoBox_22 : decode cX8_whyNoBox 22 = .ok (.getfield 7, 3) := by decide +kernel
theorem dX8_whyNoBox_25 : decode cX8_whyNoBox 25 = .ok (.iconst 3, 1) := by decide +kernel
theorem dX8_whyNoBox_26 : decode cX8_whyNoBox 26 = .ok (.iaload, 1) := by decide +kernel
theorem dX8_whyNoBox_27 : decode cX8_whyNoBox 27 = .ok (.bipush 120, 2) := by decide +kernel
theorem dX8_whyNoBox_29 : decode cX8_whyNoBox 29 = .ok (.if_icmp .ne 8, 3) := by decide +kernel
theorem dX8_whyNoBox_32 : decode cX8_whyNoBox 32 = .ok (.bipush (-4), 2) := by decide +kernel
theorem dX8_whyNoBox_34 : decode cX8_whyNoBox 34 = .ok (.goto 17, 3) := by decide +kernel
theorem dX8_whyNoBox_37 : decode cX8_whyNoBox 37 = .ok (.aload_n 0, 1) := by decide +kernel
theorem dX8_whyNoBox_38 : decode cX8_whyNoBox 38 = .ok (.iload_n 1, 1) := by decide +kernel
theorem dX8_whyNoBox_39 : decode cX8_whyNoBox 39 = .ok (.invokevirtual 108, 3) := by decide +kernel
theorem dX8_whyNoBox_42 : decode cX8_whyNoBox 42 = .ok (.ifCond .eq 7, 3) := by decide +kernel
theorem dX8_whyNoBox_45 : decode cX8_whyNoBox 45 = .ok (.iconst 0, 1) := by decide +kernel
theorem dX8_whyNoBox_46 : decode cX8_whyNoBox 46 = .ok (.goto 5, 3) := by decide +kernel
theorem dX8_whyNoBox_49 : decode cX8_whyNoBox 49 = .ok (.bipush (-5), 2) := by decide +kernel
theorem dX8_whyNoBox_51 : decode cX8_whyNoBox 51 = .ok (.ireturn, 1) := by decide +kernel
theorem dX8_makeBox_0 : decode cX8_makeBox 0 = .ok (.aload_n 0, 1) := by decide +kernel
theorem dX8_makeBox_1 : decode cX8_makeBox 1 = .ok (.getfield 7, 3) := by decide +kernel
theorem dX8_makeBox_4 : decode cX8_makeBox 4 = .ok (.iconst 2, 1) := by decide +kernel
theorem dX8_makeBox_5 : decode cX8_makeBox 5 = .ok (.iaload, 1) := by decide +kernel
theorem dX8_makeBox_6 : decode cX8_makeBox 6 = .ok (.istore_n 2, 1) := by decide +kernel
theorem dX8_makeBox_7 : decode cX8_makeBox 7 = .ok (.aload_n 0, 1) := by decide +kernel
theorem dX8_makeBox_8 : decode cX8_makeBox 8 = .ok (.iload_n 2, 1) := by decide +kernel
theorem dX8_makeBox_9 : decode cX8_makeBox 9 = .ok (.iconst 0, 1) := by decide +kernel
theorem dX8_makeBox_10 : decode cX8_makeBox 10 = .ok (.iload_n 1, 1) := by decide +kernel
theorem dX8_makeBox_11 : decode cX8_makeBox 11 = .ok (.invokevirtual 117, 3) := by decide +kernel
theorem dX8_makeBox_14 : decode cX8_makeBox 14 = .ok (.aload_n 0, 1) := by decide +kernel
theorem dX8_makeBox_15 : decode cX8_makeBox 15 = .ok (.iload_n 2, 1) := by decide +kernel
theorem dX8_makeBox_16 : decode cX8_makeBox 16 = .ok (.iconst 1, 1) := by decide +kernel
theorem dX8_makeBox_17 : decode cX8_makeBox 17 = .ok (.iconst 1, 1) := by decide +kernel
theorem dX8_makeBox_18 : decode cX8_makeBox 18 = .ok (.invokevirtual 117, 3) := by decide +kernel
theorem dX8_makeBox_21 : decode cX8_makeBox 21 = .ok (.aload_n 0, 1) := by decide +kernel
theorem dX8_makeBox_22 : decode cX8_makeBox 22 = .ok (.getfield 7, 3) := by decide +kernel
theorem dX8_makeBox_25 : decode cX8_makeBox 25 = .ok (.iconst 2, 1) := by decide +kernel
theorem dX8_makeBox_26 : decode cX8_makeBox 26 = .ok (.dup2, 1) := by decide +kernel
theorem dX8_makeBox_27 : decode cX8_makeBox 27 = .ok (.iaload, 1) := by decide +kernel
theorem dX8_makeBox_28 : decode cX8_makeBox 28 = .ok (.iconst 1, 1) := by decide +kernel
theorem dX8_makeBox_29 : decode cX8_makeBox 29 = .ok (.iadd, 1) := by decide +kernel
theorem dX8_makeBox_30 : decode cX8_makeBox 30 = .ok (.iastore, 1) := by decide +kernel
theorem dX8_makeBox_31 : decode cX8_makeBox 31 = .ok (.aload_n 0, 1) := by decide +kernel
theorem dX8_makeBox_32 : decode cX8_makeBox 32 = .ok (.iload_n 2, 1) := by decide +kernel
theorem dX8_makeBox_33 : decode cX8_makeBox 33 = .ok (.invokevirtual 78, 3) := by decide +kernel
theorem dX8_makeBox_36 : decode cX8_makeBox 36 = .ok (.iload_n 2, 1) := by decide +kernel
theorem dX8_makeBox_37 : decode cX8_makeBox 37 = .ok (.ireturn, 1) := by decide +kernel
theorem dX8_box_0 : decode cX8_box 0 = .ok (.aload_n 0, 1) := by decide +kernel
theorem dX8_box_1 : decode cX8_box 1 = .ok (.iload_n 1, 1) := by decide +kernel
theorem dX8_box_2 : decode cX8_box 2 = .ok (.invokevirtual 120, 3) := by decide +kernel
theorem dX8_box_5 : decode cX8_box 5 = .ok (.istore_n 2, 1) := by decide +kernel
theorem dX8_box_6 : decode cX8_box 6 = .ok (.iload_n 2, 1) := by decide +kernel
theorem dX8_box_7 : decode cX8_box 7 = .ok (.ifCond .ge 5, 3) := by decide +kernel
theorem dX8_box_10 : decode cX8_box 10 = .ok (.iload_n 2, 1) := by decide +kernel
theorem dX8_box_11 : decode cX8_box 11 = .ok (.ireturn, 1) := by decide +kernel
theorem dX8_box_12 : decode cX8_box 12 = .ok (.aload_n 0, 1) := by decide +kernel
theorem dX8_box_13 : decode cX8_box 13 = .ok (.invokevirtual 102, 3) := by decide +kernel
theorem dX8_box_16 : decode cX8_box 16 = .ok (.aload_n 0, 1) := by decide +kernel
theorem dX8_box_17 : decode cX8_box 17 = .ok (.iload_n 1, 1) := by decide +kernel
theorem dX8_box_18 : decode cX8_box 18 = .ok (.invokevirtual 123, 3) := by decide +kernel
theorem dX8_box_21 : decode cX8_box 21 = .ok (.ireturn, 1) := by decide +kernel
theorem dX8_whyNoCopy_0 : decode cX8_whyNoCopy 0 = .ok (.iload_n 1, 1) := by decide +kernel
theorem dX8_whyNoCopy_1 : decode cX8_whyNoCopy 1 = .ok (.iconst 0, 1) := by decide +kernel
theorem dX8_whyNoCopy_2 : decode cX8_whyNoCopy 2 = .ok (.aload_n 0, 1) := by decide +kernel
theorem dX8_whyNoCopy_3 : decode cX8_whyNoCopy 3 = .ok (.getfield 7, 3) := by decide +kernel
theorem dX8_whyNoCopy_6 : decode cX8_whyNoCopy 6 = .ok (.iconst 3, 1) := by decide +kernel
theorem dX8_whyNoCopy_7 : decode cX8_whyNoCopy 7 = .ok (.iaload, 1) := by decide +kernel
theorem dX8_whyNoCopy_8 : decode cX8_whyNoCopy 8 = .ok (.iconst 1, 1) := by decide +kernel
theorem dX8_whyNoCopy_9 : decode cX8_whyNoCopy 9 = .ok (.isub, 1) := by decide +kernel
theorem dX8_whyNoCopy_10 : decode cX8_whyNoCopy 10 = .ok (.invokestatic 36, 3) := by decide +kernel
theorem dX8_whyNoCopy_13 : decode cX8_whyNoCopy 13 = .ok (.ifCond .ne 5, 3) := by decide +kernel
theorem dX8_whyNoCopy_16 : decode cX8_whyNoCopy 16 = .ok (.iconst (-1), 1) := by decide +kernel
theorem dX8_whyNoCopy_17 : decode cX8_whyNoCopy 17 = .ok (.ireturn, 1) := by decide +kernel
theorem dX8_whyNoCopy_18 : decode cX8_whyNoCopy 18 = .ok (.iload_n 2, 1) := by decide +kernel
theorem dX8_whyNoCopy_19 : decode cX8_whyNoCopy 19 = .ok (.iconst 0, 1) := by decide +kernel
theorem dX8_whyNoCopy_20 : decode cX8_whyNoCopy 20 = .ok (.iconst 2, 1) := by decide +kernel
theorem dX8_whyNoCopy_21 : decode cX8_whyNoCopy 21 = .ok (.invokestatic 36, 3) := by decide +kernel
theorem dX8_whyNoCopy_24 : decode cX8_whyNoCopy 24 = .ok (.ifCond .ne 6, 3) := by decide +kernel
theorem dX8_whyNoCopy_27 : decode cX8_whyNoCopy 27 = .ok (.bipush (-2), 2) := by decide +kernel
theorem dX8_whyNoCopy_29 : decode cX8_whyNoCopy 29 = .ok (.ireturn, 1) := by decide +kernel
theorem dX8_whyNoCopy_30 : decode cX8_whyNoCopy 30 = .ok (.aload_n 0, 1) := by decide +kernel
theorem dX8_whyNoCopy_31 : decode cX8_whyNoCopy 31 = .ok (.iload_n 1, 1) := by decide +kernel
theorem dX8_whyNoCopy_32 : decode cX8_whyNoCopy 32 = .ok (.iconst 4, 1) := by decide +kernel
theorem dX8_whyNoCopy_33 : decode cX8_whyNoCopy 33 = .ok (.invokevirtual 81, 3) := by decide +kernel
theorem dX8_whyNoCopy_36 : decode cX8_whyNoCopy 36 = .ok (.ifCond .eq 17, 3) := by decide +kernel
theorem dX8_whyNoCopy_39 : decode cX8_whyNoCopy 39 = .ok (.aload_n 0, 1) := by decide +kernel
theorem dX8_whyNoCopy_40 : decode cX8_whyNoCopy 40 = .ok (.iload_n 1, 1) := by decide +kernel
theorem dX8_whyNoCopy_41 : decode cX8_whyNoCopy 41 = .ok (.iconst 5, 1) := by decide +kernel
theorem dX8_whyNoCopy_42 : decode cX8_whyNoCopy 42 = .ok (.invokevirtual 81, 3) := by decide +kernel
theorem dX8_whyNoCopy_45 : decode cX8_whyNoCopy 45 = .ok (.iload_n 2, 1) := by decide +kernel
theorem dX8_whyNoCopy_46 : decode cX8_whyNoCopy 46 = .ok (.ishr, 1) := by decide +kernel
theorem dX8_whyNoCopy_47 : decode cX8_whyNoCopy 47 = .ok (.iconst 1, 1) := by decide +kernel
theorem dX8_whyNoCopy_48 : decode cX8_whyNoCopy 48 = .ok (.iand, 1) := by decide +kernel
theorem dX8_whyNoCopy_49 : decode cX8_whyNoCopy 49 = .ok (.iconst 1, 1) := by decide +kernel
theorem dX8_whyNoCopy_50 : decode cX8_whyNoCopy 50 = .ok (.if_icmp .ne 8, 3) := by decide +kernel
theorem dX8_whyNoCopy_53 : decode cX8_whyNoCopy 53 = .ok (.bipush (-5), 2) := by decide +kernel
theorem dX8_whyNoCopy_55 : decode cX8_whyNoCopy 55 = .ok (.goto 4, 3) := by decide +kernel
theorem dX8_whyNoCopy_58 : decode cX8_whyNoCopy 58 = .ok (.iconst 0, 1) := by decide +kernel
theorem dX8_whyNoCopy_59 : decode cX8_whyNoCopy 59 = .ok (.ireturn, 1) := by decide +kernel
theorem dX8_copied_0 : decode cX8_copied 0 = .ok (.aload_n 0, 1) := by decide +kernel
theorem dX8_copied_1 : decode cX8_copied 1 = .ok (.iload_n 1, 1) := by decide +kernel
theorem dX8_copied_2 : decode cX8_copied 2 = .ok (.iconst 5, 1) := by decide +kernel
theorem dX8_copied_3 : decode cX8_copied 3 = .ok (.aload_n 0, 1) := by decide +kernel
theorem dX8_copied_4 : decode cX8_copied 4 = .ok (.iload_n 1, 1) := by decide +kernel
theorem dX8_copied_5 : decode cX8_copied 5 = .ok (.iconst 5, 1) := by decide +kernel
theorem dX8_copied_6 : decode cX8_copied 6 = .ok (.invokevirtual 81, 3) := by decide +kernel
theorem dX8_copied_9 : decode cX8_copied 9 = .ok (.iconst 1, 1) := by decide +kernel
theorem dX8_copied_10 : decode cX8_copied 10 = .ok (.iload_n 2, 1) := by decide +kernel
theorem dX8_copied_11 : decode cX8_copied 11 = .ok (.ishl, 1) := by decide +kernel
theorem dX8_copied_12 : decode cX8_copied 12 = .ok (.ior, 1) := by decide +kernel
theorem dX8_copied_13 : decode cX8_copied 13 = .ok (.invokevirtual 64, 3) := by decide +kernel
theorem dX8_copied_16 : decode cX8_copied 16 = .ok (.iconst 0, 1) := by decide +kernel
theorem dX8_copied_17 : decode cX8_copied 17 = .ok (.istore_n 3, 1) := by decide +kernel
theorem dX8_copied_18 : decode cX8_copied 18 = .ok (.iconst 0, 1) := by decide +kernel
theorem dX8_copied_19 : decode cX8_copied 19 = .ok (.istore 4, 2) := by decide +kernel
theorem dX8_copied_21 : decode cX8_copied 21 = .ok (.iload 4, 2) := by decide +kernel
theorem dX8_copied_23 : decode cX8_copied 23 = .ok (.aload_n 0, 1) := by decide +kernel
theorem dX8_copied_24 : decode cX8_copied 24 = .ok (.getfield 7, 3) := by decide +kernel
theorem dX8_copied_27 : decode cX8_copied 27 = .ok (.iconst 3, 1) := by decide +kernel
theorem dX8_copied_28 : decode cX8_copied 28 = .ok (.iaload, 1) := by decide +kernel
theorem dX8_copied_29 : decode cX8_copied 29 = .ok (.if_icmp .ge 23, 3) := by decide +kernel
theorem dX8_copied_32 : decode cX8_copied 32 = .ok (.iload_n 3, 1) := by decide +kernel
theorem dX8_copied_33 : decode cX8_copied 33 = .ok (.aload_n 0, 1) := by decide +kernel
theorem dX8_copied_34 : decode cX8_copied 34 = .ok (.iload 4, 2) := by decide +kernel
theorem dX8_copied_36 : decode cX8_copied 36 = .ok (.iconst 5, 1) := by decide +kernel
theorem dX8_copied_37 : decode cX8_copied 37 = .ok (.invokevirtual 81, 3) := by decide +kernel
theorem dX8_copied_40 : decode cX8_copied 40 = .ok (.iload_n 2, 1) := by decide +kernel
theorem dX8_copied_41 : decode cX8_copied 41 = .ok (.ishr, 1) := by decide +kernel
theorem dX8_copied_42 : decode cX8_copied 42 = .ok (.iconst 1, 1) := by decide +kernel
theorem dX8_copied_43 : decode cX8_copied 43 = .ok (.iand, 1) := by decide +kernel
theorem dX8_copied_44 : decode cX8_copied 44 = .ok (.iadd, 1) := by decide +kernel
theorem dX8_copied_45 : decode cX8_copied 45 = .ok (.istore_n 3, 1) := by decide +kernel
theorem dX8_copied_46 : decode cX8_copied 46 = .ok (.iinc 4 1, 3) := by decide +kernel
theorem dX8_copied_49 : decode cX8_copied 49 = .ok (.goto (-28), 3) := by decide +kernel
theorem dX8_copied_52 : decode cX8_copied 52 = .ok (.iload_n 3, 1) := by decide +kernel
theorem dX8_copied_53 : decode cX8_copied 53 = .ok (.ireturn, 1) := by decide +kernel
theorem dX8_copy_0 : decode cX8_copy 0 = .ok (.aload_n 0, 1) := by decide +kernel
theorem dX8_copy_1 : decode cX8_copy 1 = .ok (.iload_n 1, 1) := by decide +kernel
theorem dX8_copy_2 : decode cX8_copy 2 = .ok (.iload_n 2, 1) := by decide +kernel
theorem dX8_copy_3 : decode cX8_copy 3 = .ok (.invokevirtual 126, 3) := by decide +kernel
theorem dX8_copy_6 : decode cX8_copy 6 = .ok (.istore_n 3, 1) := by decide +kernel
theorem dX8_copy_7 : decode cX8_copy 7 = .ok (.iload_n 3, 1) := by decide +kernel
theorem dX8_copy_8 : decode cX8_copy 8 = .ok (.ifCond .ge 5, 3) := by decide +kernel
theorem dX8_copy_11 : decode cX8_copy 11 = .ok (.iload_n 3, 1) := by decide +kernel
theorem dX8_copy_12 : decode cX8_copy 12 = .ok (.ireturn, 1) := by decide +kernel
theorem dX8_copy_13 : decode cX8_copy 13 = .ok (.aload_n 0, 1) := by decide +kernel
theorem dX8_copy_14 : decode cX8_copy 14 = .ok (.invokevirtual 102, 3) := by decide +kernel
theorem dX8_copy_17 : decode cX8_copy 17 = .ok (.aload_n 0, 1) := by decide +kernel
theorem dX8_copy_18 : decode cX8_copy 18 = .ok (.iload_n 1, 1) := by decide +kernel
theorem dX8_copy_19 : decode cX8_copy 19 = .ok (.iload_n 2, 1) := by decide +kernel
theorem dX8_copy_20 : decode cX8_copy 20 = .ok (.invokevirtual 129, 3) := by decide +kernel
theorem dX8_copy_23 : decode cX8_copy 23 = .ok (.ireturn, 1) := by decide +kernel
theorem dX8_renewMakes_0 : decode cX8_renewMakes 0 = .ok (.aload_n 0, 1) := by decide +kernel
theorem dX8_renewMakes_1 : decode cX8_renewMakes 1 = .ok (.iload_n 1, 1) := by decide +kernel
theorem dX8_renewMakes_2 : decode cX8_renewMakes 2 = .ok (.invokevirtual 132, 3) := by decide +kernel
theorem dX8_renewMakes_5 : decode cX8_renewMakes 5 = .ok (.aload_n 0, 1) := by decide +kernel
theorem dX8_renewMakes_6 : decode cX8_renewMakes 6 = .ok (.iload_n 1, 1) := by decide +kernel
theorem dX8_renewMakes_7 : decode cX8_renewMakes 7 = .ok (.invokevirtual 84, 3) := by decide +kernel
theorem dX8_renewMakes_10 : decode cX8_renewMakes 10 = .ok (.ifCond .eq 7, 3) := by decide +kernel
theorem dX8_renewMakes_13 : decode cX8_renewMakes 13 = .ok (.iconst 0, 1) := by decide +kernel
theorem dX8_renewMakes_14 : decode cX8_renewMakes 14 = .ok (.goto 4, 3) := by decide +kernel
theorem dX8_renewMakes_17 : decode cX8_renewMakes 17 = .ok (.iconst 1, 1) := by decide +kernel
theorem dX8_renewMakes_18 : decode cX8_renewMakes 18 = .ok (.iadd, 1) := by decide +kernel
theorem dX8_renewMakes_19 : decode cX8_renewMakes 19 = .ok (.ireturn, 1) := by decide +kernel
theorem dX8_whyNotRenewed_0 : decode cX8_whyNotRenewed 0 = .ok (.aload_n 0, 1) := by decide +kernel
theorem dX8_whyNotRenewed_1 : decode cX8_whyNotRenewed 1 = .ok (.iload_n 1, 1) := by decide +kernel
theorem dX8_whyNotRenewed_2 : decode cX8_whyNotRenewed 2 = .ok (.invokevirtual 105, 3) := by decide +kernel
theorem dX8_whyNotRenewed_5 : decode cX8_whyNotRenewed 5 = .ok (.ifCond .ne 5, 3) := by decide +kernel
theorem dX8_whyNotRenewed_8 : decode cX8_whyNotRenewed 8 = .ok (.iconst (-1), 1) := by decide +kernel
theorem dX8_whyNotRenewed_9 : decode cX8_whyNotRenewed 9 = .ok (.ireturn, 1) := by decide +kernel
theorem dX8_whyNotRenewed_10 : decode cX8_whyNotRenewed 10 = .ok (.aload_n 0, 1) := by decide +kernel
theorem dX8_whyNotRenewed_11 : decode cX8_whyNotRenewed 11 = .ok (.getfield 7, 3) := by decide +kernel
theorem dX8_whyNotRenewed_14 : decode cX8_whyNotRenewed 14 = .ok (.iconst 3, 1) := by decide +kernel
theorem dX8_whyNotRenewed_15 : decode cX8_whyNotRenewed 15 = .ok (.iaload, 1) := by decide +kernel
theorem dX8_whyNotRenewed_16 : decode cX8_whyNotRenewed 16 = .ok (.aload_n 0, 1) := by decide +kernel
theorem dX8_whyNotRenewed_17 : decode cX8_whyNotRenewed 17 = .ok (.iload_n 1, 1) := by decide +kernel
theorem dX8_whyNotRenewed_18 : decode cX8_whyNotRenewed 18 = .ok (.invokevirtual 135, 3) := by decide +kernel
theorem dX8_whyNotRenewed_21 : decode cX8_whyNotRenewed 21 = .ok (.iadd, 1) := by decide +kernel
theorem dX8_whyNotRenewed_22 : decode cX8_whyNotRenewed 22 = .ok (.bipush 120, 2) := by decide +kernel
theorem dX8_whyNotRenewed_24 : decode cX8_whyNotRenewed 24 = .ok (.if_icmp .le 6, 3) := by decide +kernel
theorem dX8_whyNotRenewed_27 : decode cX8_whyNotRenewed 27 = .ok (.bipush (-4), 2) := by decide +kernel
theorem dX8_whyNotRenewed_29 : decode cX8_whyNotRenewed 29 = .ok (.ireturn, 1) := by decide +kernel
theorem dX8_whyNotRenewed_30 : decode cX8_whyNotRenewed 30 = .ok (.aload_n 0, 1) := by decide +kernel
theorem dX8_whyNotRenewed_31 : decode cX8_whyNotRenewed 31 = .ok (.iload_n 1, 1) := by decide +kernel
theorem dX8_whyNotRenewed_32 : decode cX8_whyNotRenewed 32 = .ok (.invokevirtual 84, 3) := by decide +kernel
theorem dX8_whyNotRenewed_35 : decode cX8_whyNotRenewed 35 = .ok (.ifCond .ne 16, 3) := by decide +kernel
theorem dX8_whyNotRenewed_38 : decode cX8_whyNotRenewed 38 = .ok (.aload_n 0, 1) := by decide +kernel
theorem dX8_whyNotRenewed_39 : decode cX8_whyNotRenewed 39 = .ok (.aload_n 0, 1) := by decide +kernel
theorem dX8_whyNotRenewed_40 : decode cX8_whyNotRenewed 40 = .ok (.iload_n 1, 1) := by decide +kernel
theorem dX8_whyNotRenewed_41 : decode cX8_whyNotRenewed 41 = .ok (.iconst 0, 1) := by decide +kernel
theorem dX8_whyNotRenewed_42 : decode cX8_whyNotRenewed 42 = .ok (.invokevirtual 44, 3) := by decide +kernel
theorem dX8_whyNotRenewed_45 : decode cX8_whyNotRenewed 45 = .ok (.invokevirtual 108, 3) := by decide +kernel
theorem dX8_whyNotRenewed_48 : decode cX8_whyNotRenewed 48 = .ok (.ifCond .eq 17, 3) := by decide +kernel
theorem dX8_whyNotRenewed_51 : decode cX8_whyNotRenewed 51 = .ok (.aload_n 0, 1) := by decide +kernel
theorem dX8_whyNotRenewed_52 : decode cX8_whyNotRenewed 52 = .ok (.iload_n 1, 1) := by decide +kernel
theorem dX8_whyNotRenewed_53 : decode cX8_whyNotRenewed 53 = .ok (.invokevirtual 132, 3) := by decide +kernel
theorem dX8_whyNotRenewed_56 : decode cX8_whyNotRenewed 56 = .ok (.aload_n 0, 1) := by decide +kernel
theorem dX8_whyNotRenewed_57 : decode cX8_whyNotRenewed 57 = .ok (.getfield 7, 3) := by decide +kernel
theorem dX8_whyNotRenewed_60 : decode cX8_whyNotRenewed 60 = .ok (.iconst 0, 1) := by decide +kernel
theorem dX8_whyNotRenewed_61 : decode cX8_whyNotRenewed 61 = .ok (.iaload, 1) := by decide +kernel
theorem dX8_whyNotRenewed_62 : decode cX8_whyNotRenewed 62 = .ok (.if_icmp .le 8, 3) := by decide +kernel
theorem dX8_whyNotRenewed_65 : decode cX8_whyNotRenewed 65 = .ok (.bipush (-5), 2) := by decide +kernel
theorem dX8_whyNotRenewed_67 : decode cX8_whyNotRenewed 67 = .ok (.goto 4, 3) := by decide +kernel
theorem dX8_whyNotRenewed_70 : decode cX8_whyNotRenewed 70 = .ok (.iconst 0, 1) := by decide +kernel
theorem dX8_whyNotRenewed_71 : decode cX8_whyNotRenewed 71 = .ok (.ireturn, 1) := by decide +kernel
theorem dX8_makesAnew_0 : decode cX8_makesAnew 0 = .ok (.aload_n 0, 1) := by decide +kernel
theorem dX8_makesAnew_1 : decode cX8_makesAnew 1 = .ok (.iload_n 1, 1) := by decide +kernel
theorem dX8_makesAnew_2 : decode cX8_makesAnew 2 = .ok (.iconst 2, 1) := by decide +kernel
theorem dX8_makesAnew_3 : decode cX8_makesAnew 3 = .ok (.aload_n 0, 1) := by decide +kernel
theorem dX8_makesAnew_4 : decode cX8_makesAnew 4 = .ok (.iload_n 1, 1) := by decide +kernel
theorem dX8_makesAnew_5 : decode cX8_makesAnew 5 = .ok (.iconst 2, 1) := by decide +kernel
theorem dX8_makesAnew_6 : decode cX8_makesAnew 6 = .ok (.invokevirtual 44, 3) := by decide +kernel
theorem dX8_makesAnew_9 : decode cX8_makesAnew 9 = .ok (.iconst 1, 1) := by decide +kernel
theorem dX8_makesAnew_10 : decode cX8_makesAnew 10 = .ok (.iadd, 1) := by decide +kernel
theorem dX8_makesAnew_11 : decode cX8_makesAnew 11 = .ok (.invokevirtual 68, 3) := by decide +kernel
theorem dX8_makesAnew_14 : decode cX8_makesAnew 14 = .ok (.aload_n 0, 1) := by decide +kernel
theorem dX8_makesAnew_15 : decode cX8_makesAnew 15 = .ok (.iload_n 1, 1) := by decide +kernel
theorem dX8_makesAnew_16 : decode cX8_makesAnew 16 = .ok (.iconst 3, 1) := by decide +kernel
theorem dX8_makesAnew_17 : decode cX8_makesAnew 17 = .ok (.iconst 0, 1) := by decide +kernel
theorem dX8_makesAnew_18 : decode cX8_makesAnew 18 = .ok (.invokevirtual 68, 3) := by decide +kernel
theorem dX8_makesAnew_21 : decode cX8_makesAnew 21 = .ok (.return_, 1) := by decide +kernel
theorem dX8_renewed_0 : decode cX8_renewed 0 = .ok (.aload_n 0, 1) := by decide +kernel
theorem dX8_renewed_1 : decode cX8_renewed 1 = .ok (.iload_n 1, 1) := by decide +kernel
theorem dX8_renewed_2 : decode cX8_renewed 2 = .ok (.invokevirtual 135, 3) := by decide +kernel
theorem dX8_renewed_5 : decode cX8_renewed 5 = .ok (.istore_n 2, 1) := by decide +kernel
theorem dX8_renewed_6 : decode cX8_renewed 6 = .ok (.aload_n 0, 1) := by decide +kernel
theorem dX8_renewed_7 : decode cX8_renewed 7 = .ok (.iload_n 1, 1) := by decide +kernel
theorem dX8_renewed_8 : decode cX8_renewed 8 = .ok (.invokevirtual 138, 3) := by decide +kernel
theorem dX8_renewed_11 : decode cX8_renewed 11 = .ok (.aload_n 0, 1) := by decide +kernel
theorem dX8_renewed_12 : decode cX8_renewed 12 = .ok (.invokevirtual 141, 3) := by decide +kernel
theorem dX8_renewed_15 : decode cX8_renewed 15 = .ok (.aload_n 0, 1) := by decide +kernel
theorem dX8_renewed_16 : decode cX8_renewed 16 = .ok (.iload_n 1, 1) := by decide +kernel
theorem dX8_renewed_17 : decode cX8_renewed 17 = .ok (.invokevirtual 84, 3) := by decide +kernel
theorem dX8_renewed_20 : decode cX8_renewed 20 = .ok (.ifCond .ne 8, 3) := by decide +kernel
theorem dX8_renewed_23 : decode cX8_renewed 23 = .ok (.aload_n 0, 1) := by decide +kernel
theorem dX8_renewed_24 : decode cX8_renewed 24 = .ok (.iload_n 1, 1) := by decide +kernel
theorem dX8_renewed_25 : decode cX8_renewed 25 = .ok (.invokevirtual 74, 3) := by decide +kernel
theorem dX8_renewed_28 : decode cX8_renewed 28 = .ok (.aload_n 0, 1) := by decide +kernel
theorem dX8_renewed_29 : decode cX8_renewed 29 = .ok (.iload_n 1, 1) := by decide +kernel
theorem dX8_renewed_30 : decode cX8_renewed 30 = .ok (.invokevirtual 144, 3) := by decide +kernel
theorem dX8_renewed_33 : decode cX8_renewed 33 = .ok (.iload_n 2, 1) := by decide +kernel
theorem dX8_renewed_34 : decode cX8_renewed 34 = .ok (.ireturn, 1) := by decide +kernel
theorem dX8_renew_0 : decode cX8_renew 0 = .ok (.aload_n 0, 1) := by decide +kernel
theorem dX8_renew_1 : decode cX8_renew 1 = .ok (.iload_n 1, 1) := by decide +kernel
theorem dX8_renew_2 : decode cX8_renew 2 = .ok (.invokevirtual 147, 3) := by decide +kernel
theorem dX8_renew_5 : decode cX8_renew 5 = .ok (.istore_n 2, 1) := by decide +kernel
theorem dX8_renew_6 : decode cX8_renew 6 = .ok (.iload_n 2, 1) := by decide +kernel
theorem dX8_renew_7 : decode cX8_renew 7 = .ok (.ifCond .ge 5, 3) := by decide +kernel
theorem dX8_renew_10 : decode cX8_renew 10 = .ok (.iload_n 2, 1) := by decide +kernel
theorem dX8_renew_11 : decode cX8_renew 11 = .ok (.ireturn, 1) := by decide +kernel
theorem dX8_renew_12 : decode cX8_renew 12 = .ok (.aload_n 0, 1) := by decide +kernel
theorem dX8_renew_13 : decode cX8_renew 13 = .ok (.invokevirtual 102, 3) := by decide +kernel
theorem dX8_renew_16 : decode cX8_renew 16 = .ok (.aload_n 0, 1) := by decide +kernel
theorem dX8_renew_17 : decode cX8_renew 17 = .ok (.iload_n 1, 1) := by decide +kernel
theorem dX8_renew_18 : decode cX8_renew 18 = .ok (.invokevirtual 150, 3) := by decide +kernel
theorem dX8_renew_21 : decode cX8_renew 21 = .ok (.ireturn, 1) := by decide +kernel
theorem dX8_throwMakes_0 : decode cX8_throwMakes 0 = .ok (.iconst 0, 1) := by decide +kernel
theorem dX8_throwMakes_1 : decode cX8_throwMakes 1 = .ok (.istore_n 2, 1) := by decide +kernel
theorem dX8_throwMakes_2 : decode cX8_throwMakes 2 = .ok (.iconst 1, 1) := by decide +kernel
theorem dX8_throwMakes_3 : decode cX8_throwMakes 3 = .ok (.istore_n 3, 1) := by decide +kernel
theorem dX8_throwMakes_4 : decode cX8_throwMakes 4 = .ok (.iload_n 1, 1) := by decide +kernel
theorem dX8_throwMakes_5 : decode cX8_throwMakes 5 = .ok (.istore 4, 2) := by decide +kernel
theorem dX8_throwMakes_7 : decode cX8_throwMakes 7 = .ok (.iload 4, 2) := by decide +kernel
theorem dX8_throwMakes_9 : decode cX8_throwMakes 9 = .ok (.bipush (-6), 2) := by decide +kernel
theorem dX8_throwMakes_11 : decode cX8_throwMakes 11 = .ok (.if_icmp .eq 61, 3) := by decide +kernel
theorem dX8_throwMakes_14 : decode cX8_throwMakes 14 = .ok (.aload_n 0, 1) := by decide +kernel
theorem dX8_throwMakes_15 : decode cX8_throwMakes 15 = .ok (.iload 4, 2) := by decide +kernel
theorem dX8_throwMakes_17 : decode cX8_throwMakes 17 = .ok (.invokevirtual 132, 3) := by decide +kernel
theorem dX8_throwMakes_20 : decode cX8_throwMakes 20 = .ok (.iload 4, 2) := by decide +kernel
theorem dX8_throwMakes_22 : decode cX8_throwMakes 22 = .ok (.iload_n 1, 1) := by decide +kernel
theorem dX8_throwMakes_23 : decode cX8_throwMakes 23 = .ok (.if_icmp .ne 7, 3) := by decide +kernel
theorem dX8_throwMakes_26 : decode cX8_throwMakes 26 = .ok (.iconst 1, 1) := by decide +kernel
theorem dX8_throwMakes_27 : decode cX8_throwMakes 27 = .ok (.goto 4, 3) := by decide +kernel
theorem dX8_throwMakes_30 : decode cX8_throwMakes 30 = .ok (.iconst 0, 1) := by decide +kernel
theorem dX8_throwMakes_31 : decode cX8_throwMakes 31 = .ok (.isub, 1) := by decide +kernel
theorem dX8_throwMakes_32 : decode cX8_throwMakes 32 = .ok (.istore 5, 2) := by decide +kernel
theorem dX8_throwMakes_34 : decode cX8_throwMakes 34 = .ok (.iload_n 3, 1) := by decide +kernel
theorem dX8_throwMakes_35 : decode cX8_throwMakes 35 = .ok (.ifCond .eq 18, 3) := by decide +kernel
theorem dX8_throwMakes_38 : decode cX8_throwMakes 38 = .ok (.iload 5, 2) := by decide +kernel
theorem dX8_throwMakes_40 : decode cX8_throwMakes 40 = .ok (.aload_n 0, 1) := by decide +kernel
theorem dX8_throwMakes_41 : decode cX8_throwMakes 41 = .ok (.getfield 7, 3) := by decide +kernel
theorem dX8_throwMakes_44 : decode cX8_throwMakes 44 = .ok (.iconst 0, 1) := by decide +kernel
theorem dX8_throwMakes_45 : decode cX8_throwMakes 45 = .ok (.iaload, 1) := by decide +kernel
theorem dX8_throwMakes_46 : decode cX8_throwMakes 46 = .ok (.if_icmp .gt 7, 3) := by decide +kernel
theorem dX8_throwMakes_49 : decode cX8_throwMakes 49 = .ok (.iconst 1, 1) := by decide +kernel
theorem dX8_throwMakes_50 : decode cX8_throwMakes 50 = .ok (.goto 4, 3) := by decide +kernel
theorem dX8_throwMakes_53 : decode cX8_throwMakes 53 = .ok (.iconst 0, 1) := by decide +kernel
theorem dX8_throwMakes_54 : decode cX8_throwMakes 54 = .ok (.istore_n 3, 1) := by decide +kernel
theorem dX8_throwMakes_55 : decode cX8_throwMakes 55 = .ok (.iload_n 2, 1) := by decide +kernel
theorem dX8_throwMakes_56 : decode cX8_throwMakes 56 = .ok (.iload 5, 2) := by decide +kernel
theorem dX8_throwMakes_58 : decode cX8_throwMakes 58 = .ok (.iadd, 1) := by decide +kernel
theorem dX8_throwMakes_59 : decode cX8_throwMakes 59 = .ok (.istore_n 2, 1) := by decide +kernel
theorem dX8_throwMakes_60 : decode cX8_throwMakes 60 = .ok (.aload_n 0, 1) := by decide +kernel
theorem dX8_throwMakes_61 : decode cX8_throwMakes 61 = .ok (.iload 4, 2) := by decide +kernel
theorem dX8_throwMakes_63 : decode cX8_throwMakes 63 = .ok (.iconst 0, 1) := by decide +kernel
theorem dX8_throwMakes_64 : decode cX8_throwMakes 64 = .ok (.invokevirtual 44, 3) := by decide +kernel
theorem dX8_throwMakes_67 : decode cX8_throwMakes 67 = .ok (.istore 4, 2) := by decide +kernel
theorem dX8_throwMakes_69 : decode cX8_throwMakes 69 = .ok (.goto (-62), 3) := by decide +kernel
theorem dX8_throwMakes_72 : decode cX8_throwMakes 72 = .ok (.iload_n 3, 1) := by decide +kernel
theorem dX8_throwMakes_73 : decode cX8_throwMakes 73 = .ok (.ifCond .eq 7, 3) := by decide +kernel
theorem dX8_throwMakes_76 : decode cX8_throwMakes 76 = .ok (.iload_n 2, 1) := by decide +kernel
theorem dX8_throwMakes_77 : decode cX8_throwMakes 77 = .ok (.goto 5, 3) := by decide +kernel
theorem dX8_throwMakes_80 : decode cX8_throwMakes 80 = .ok (.bipush (-5), 2) := by decide +kernel
theorem dX8_throwMakes_82 : decode cX8_throwMakes 82 = .ok (.ireturn, 1) := by decide +kernel
theorem dX8_whyNotThrown_0 : decode cX8_whyNotThrown 0 = .ok (.iconst 0, 1) := by decide +kernel
theorem dX8_whyNotThrown_1 : decode cX8_whyNotThrown 1 = .ok (.istore_n 2, 1) := by decide +kernel
theorem dX8_whyNotThrown_2 : decode cX8_whyNotThrown 2 = .ok (.iload_n 1, 1) := by decide +kernel
theorem dX8_whyNotThrown_3 : decode cX8_whyNotThrown 3 = .ok (.istore_n 3, 1) := by decide +kernel
theorem dX8_whyNotThrown_4 : decode cX8_whyNotThrown 4 = .ok (.iload_n 3, 1) := by decide +kernel
theorem dX8_whyNotThrown_5 : decode cX8_whyNotThrown 5 = .ok (.bipush (-6), 2) := by decide +kernel
theorem dX8_whyNotThrown_7 : decode cX8_whyNotThrown 7 = .ok (.if_icmp .eq 32, 3) := by decide +kernel
theorem dX8_whyNotThrown_10 : decode cX8_whyNotThrown 10 = .ok (.iload_n 2, 1) := by decide +kernel
theorem dX8_whyNotThrown_11 : decode cX8_whyNotThrown 11 = .ok (.aload_n 0, 1) := by decide +kernel
theorem dX8_whyNotThrown_12 : decode cX8_whyNotThrown 12 = .ok (.iload_n 3, 1) := by decide +kernel
theorem dX8_whyNotThrown_13 : decode cX8_whyNotThrown 13 = .ok (.invokevirtual 132, 3) := by decide +kernel
theorem dX8_whyNotThrown_16 : decode cX8_whyNotThrown 16 = .ok (.iload_n 3, 1) := by decide +kernel
theorem dX8_whyNotThrown_17 : decode cX8_whyNotThrown 17 = .ok (.iload_n 1, 1) := by decide +kernel
theorem dX8_whyNotThrown_18 : decode cX8_whyNotThrown 18 = .ok (.if_icmp .ne 7, 3) := by decide +kernel
theorem dX8_whyNotThrown_21 : decode cX8_whyNotThrown 21 = .ok (.iconst 1, 1) := by decide +kernel
theorem dX8_whyNotThrown_22 : decode cX8_whyNotThrown 22 = .ok (.goto 4, 3) := by decide +kernel
theorem dX8_whyNotThrown_25 : decode cX8_whyNotThrown 25 = .ok (.iconst 0, 1) := by decide +kernel
theorem dX8_whyNotThrown_26 : decode cX8_whyNotThrown 26 = .ok (.isub, 1) := by decide +kernel
theorem dX8_whyNotThrown_27 : decode cX8_whyNotThrown 27 = .ok (.iadd, 1) := by decide +kernel
theorem dX8_whyNotThrown_28 : decode cX8_whyNotThrown 28 = .ok (.istore_n 2, 1) := by decide +kernel
theorem dX8_whyNotThrown_29 : decode cX8_whyNotThrown 29 = .ok (.aload_n 0, 1) := by decide +kernel
theorem dX8_whyNotThrown_30 : decode cX8_whyNotThrown 30 = .ok (.iload_n 3, 1) := by decide +kernel
theorem dX8_whyNotThrown_31 : decode cX8_whyNotThrown 31 = .ok (.iconst 0, 1) := by decide +kernel
theorem dX8_whyNotThrown_32 : decode cX8_whyNotThrown 32 = .ok (.invokevirtual 44, 3) := by decide +kernel
theorem dX8_whyNotThrown_35 : decode cX8_whyNotThrown 35 = .ok (.istore_n 3, 1) := by decide +kernel
theorem dX8_whyNotThrown_36 : decode cX8_whyNotThrown 36 = .ok (.goto (-32), 3) := by decide +kernel
theorem dX8_whyNotThrown_39 : decode cX8_whyNotThrown 39 = .ok (.aload_n 0, 1) := by decide +kernel
theorem dX8_whyNotThrown_40 : decode cX8_whyNotThrown 40 = .ok (.getfield 7, 3) := by decide +kernel
theorem dX8_whyNotThrown_43 : decode cX8_whyNotThrown 43 = .ok (.iconst 3, 1) := by decide +kernel
theorem dX8_whyNotThrown_44 : decode cX8_whyNotThrown 44 = .ok (.iaload, 1) := by decide +kernel
theorem dX8_whyNotThrown_45 : decode cX8_whyNotThrown 45 = .ok (.iload_n 2, 1) := by decide +kernel
theorem dX8_whyNotThrown_46 : decode cX8_whyNotThrown 46 = .ok (.iadd, 1) := by decide +kernel
theorem dX8_whyNotThrown_47 : decode cX8_whyNotThrown 47 = .ok (.bipush 120, 2) := by decide +kernel
theorem dX8_whyNotThrown_49 : decode cX8_whyNotThrown 49 = .ok (.if_icmp .le 8, 3) := by decide +kernel
theorem dX8_whyNotThrown_52 : decode cX8_whyNotThrown 52 = .ok (.bipush (-4), 2) := by decide +kernel
theorem dX8_whyNotThrown_54 : decode cX8_whyNotThrown 54 = .ok (.goto 17, 3) := by decide +kernel
theorem dX8_whyNotThrown_57 : decode cX8_whyNotThrown 57 = .ok (.aload_n 0, 1) := by decide +kernel
theorem dX8_whyNotThrown_58 : decode cX8_whyNotThrown 58 = .ok (.iload_n 1, 1) := by decide +kernel
theorem dX8_whyNotThrown_59 : decode cX8_whyNotThrown 59 = .ok (.invokevirtual 153, 3) := by decide +kernel
theorem dX8_whyNotThrown_62 : decode cX8_whyNotThrown 62 = .ok (.ifCond .ge 8, 3) := by decide +kernel
theorem dX8_whyNotThrown_65 : decode cX8_whyNotThrown 65 = .ok (.bipush (-5), 2) := by decide +kernel
theorem dX8_whyNotThrown_67 : decode cX8_whyNotThrown 67 = .ok (.goto 4, 3) := by decide +kernel
theorem dX8_whyNotThrown_70 : decode cX8_whyNotThrown 70 = .ok (.iconst 0, 1) := by decide +kernel
theorem dX8_whyNotThrown_71 : decode cX8_whyNotThrown 71 = .ok (.ireturn, 1) := by decide +kernel
theorem dX8_makesAboveAnew_0 : decode cX8_makesAboveAnew 0 = .ok (.iload_n 1, 1) := by decide +kernel
theorem dX8_makesAboveAnew_1 : decode cX8_makesAboveAnew 1 = .ok (.istore_n 2, 1) := by decide +kernel
theorem dX8_makesAboveAnew_2 : decode cX8_makesAboveAnew 2 = .ok (.iload_n 2, 1) := by decide +kernel
theorem dX8_makesAboveAnew_3 : decode cX8_makesAboveAnew 3 = .ok (.bipush (-6), 2) := by decide +kernel
theorem dX8_makesAboveAnew_5 : decode cX8_makesAboveAnew 5 = .ok (.if_icmp .eq 18, 3) := by decide +kernel
theorem dX8_makesAboveAnew_8 : decode cX8_makesAboveAnew 8 = .ok (.aload_n 0, 1) := by decide +kernel
theorem dX8_makesAboveAnew_9 : decode cX8_makesAboveAnew 9 = .ok (.iload_n 2, 1) := by decide +kernel
theorem dX8_makesAboveAnew_10 : decode cX8_makesAboveAnew 10 = .ok (.invokevirtual 138, 3) := by decide +kernel
theorem dX8_makesAboveAnew_13 : decode cX8_makesAboveAnew 13 = .ok (.aload_n 0, 1) := by decide +kernel
theorem dX8_makesAboveAnew_14 : decode cX8_makesAboveAnew 14 = .ok (.iload_n 2, 1) := by decide +kernel
theorem dX8_makesAboveAnew_15 : decode cX8_makesAboveAnew 15 = .ok (.iconst 0, 1) := by decide +kernel
theorem dX8_makesAboveAnew_16 : decode cX8_makesAboveAnew 16 = .ok (.invokevirtual 44, 3) := by decide +kernel
theorem dX8_makesAboveAnew_19 : decode cX8_makesAboveAnew 19 = .ok (.istore_n 2, 1) := by decide +kernel
theorem dX8_makesAboveAnew_20 : decode cX8_makesAboveAnew 20 = .ok (.goto (-18), 3) := by decide +kernel
theorem dX8_makesAboveAnew_23 : decode cX8_makesAboveAnew 23 = .ok (.aload_n 0, 1) := by decide +kernel
theorem dX8_makesAboveAnew_24 : decode cX8_makesAboveAnew 24 = .ok (.invokevirtual 141, 3) := by decide +kernel
theorem dX8_makesAboveAnew_27 : decode cX8_makesAboveAnew 27 = .ok (.iload_n 1, 1) := by decide +kernel
theorem dX8_makesAboveAnew_28 : decode cX8_makesAboveAnew 28 = .ok (.bipush (-6), 2) := by decide +kernel
theorem dX8_makesAboveAnew_30 : decode cX8_makesAboveAnew 30 = .ok (.if_icmp .ne 7, 3) := by decide +kernel
theorem dX8_makesAboveAnew_33 : decode cX8_makesAboveAnew 33 = .ok (.iconst (-1), 1) := by decide +kernel
theorem dX8_makesAboveAnew_34 : decode cX8_makesAboveAnew 34 = .ok (.goto 8, 3) := by decide +kernel
theorem dX8_makesAboveAnew_37 : decode cX8_makesAboveAnew 37 = .ok (.aload_n 0, 1) := by decide +kernel
theorem dX8_makesAboveAnew_38 : decode cX8_makesAboveAnew 38 = .ok (.iload_n 1, 1) := by decide +kernel
theorem dX8_makesAboveAnew_39 : decode cX8_makesAboveAnew 39 = .ok (.invokevirtual 156, 3) := by decide +kernel
theorem dX8_makesAboveAnew_42 : decode cX8_makesAboveAnew 42 = .ok (.istore_n 2, 1) := by decide +kernel
theorem dX8_makesAboveAnew_43 : decode cX8_makesAboveAnew 43 = .ok (.iload_n 2, 1) := by decide +kernel
theorem dX8_makesAboveAnew_44 : decode cX8_makesAboveAnew 44 = .ok (.ifCond .lt 19, 3) := by decide +kernel
theorem dX8_makesAboveAnew_47 : decode cX8_makesAboveAnew 47 = .ok (.aload_n 0, 1) := by decide +kernel
theorem dX8_makesAboveAnew_48 : decode cX8_makesAboveAnew 48 = .ok (.aload_n 0, 1) := by decide +kernel
theorem dX8_makesAboveAnew_49 : decode cX8_makesAboveAnew 49 = .ok (.iload_n 1, 1) := by decide +kernel
theorem dX8_makesAboveAnew_50 : decode cX8_makesAboveAnew 50 = .ok (.iload_n 2, 1) := by decide +kernel
theorem dX8_makesAboveAnew_51 : decode cX8_makesAboveAnew 51 = .ok (.invokevirtual 159, 3) := by decide +kernel
theorem dX8_makesAboveAnew_54 : decode cX8_makesAboveAnew 54 = .ok (.invokevirtual 144, 3) := by decide +kernel
theorem dX8_makesAboveAnew_57 : decode cX8_makesAboveAnew 57 = .ok (.iinc 2 (-1), 3) := by decide +kernel
theorem dX8_makesAboveAnew_60 : decode cX8_makesAboveAnew 60 = .ok (.goto (-17), 3) := by decide +kernel
theorem dX8_makesAboveAnew_63 : decode cX8_makesAboveAnew 63 = .ok (.return_, 1) := by decide +kernel
theorem dX8_whyKeyNotThrown_0 : decode cX8_whyKeyNotThrown 0 = .ok (.aload_n 0, 1) := by decide +kernel
theorem dX8_whyKeyNotThrown_1 : decode cX8_whyKeyNotThrown 1 = .ok (.iload_n 1, 1) := by decide +kernel
theorem dX8_whyKeyNotThrown_2 : decode cX8_whyKeyNotThrown 2 = .ok (.invokevirtual 105, 3) := by decide +kernel
theorem dX8_whyKeyNotThrown_5 : decode cX8_whyKeyNotThrown 5 = .ok (.ifCond .eq 16, 3) := by decide +kernel
theorem dX8_whyKeyNotThrown_8 : decode cX8_whyKeyNotThrown 8 = .ok (.aload_n 0, 1) := by decide +kernel
theorem dX8_whyKeyNotThrown_9 : decode cX8_whyKeyNotThrown 9 = .ok (.aload_n 0, 1) := by decide +kernel
theorem dX8_whyKeyNotThrown_10 : decode cX8_whyKeyNotThrown 10 = .ok (.iload_n 1, 1) := by decide +kernel
theorem dX8_whyKeyNotThrown_11 : decode cX8_whyKeyNotThrown 11 = .ok (.iconst 0, 1) := by decide +kernel
theorem dX8_whyKeyNotThrown_12 : decode cX8_whyKeyNotThrown 12 = .ok (.invokevirtual 44, 3) := by decide +kernel
theorem dX8_whyKeyNotThrown_15 : decode cX8_whyKeyNotThrown 15 = .ok (.invokevirtual 162, 3) := by decide +kernel
theorem dX8_whyKeyNotThrown_18 : decode cX8_whyKeyNotThrown 18 = .ok (.goto 4, 3) := by decide +kernel
theorem dX8_whyKeyNotThrown_21 : decode cX8_whyKeyNotThrown 21 = .ok (.iconst (-1), 1) := by decide +kernel
theorem dX8_whyKeyNotThrown_22 : decode cX8_whyKeyNotThrown 22 = .ok (.ireturn, 1) := by decide +kernel
theorem dX8_keyThrown_0 : decode cX8_keyThrown 0 = .ok (.aload_n 0, 1) := by decide +kernel
theorem dX8_keyThrown_1 : decode cX8_keyThrown 1 = .ok (.aload_n 0, 1) := by decide +kernel
theorem dX8_keyThrown_2 : decode cX8_keyThrown 2 = .ok (.iload_n 1, 1) := by decide +kernel
theorem dX8_keyThrown_3 : decode cX8_keyThrown 3 = .ok (.iconst 0, 1) := by decide +kernel
theorem dX8_keyThrown_4 : decode cX8_keyThrown 4 = .ok (.invokevirtual 44, 3) := by decide +kernel
theorem dX8_keyThrown_7 : decode cX8_keyThrown 7 = .ok (.invokevirtual 153, 3) := by decide +kernel
theorem dX8_keyThrown_10 : decode cX8_keyThrown 10 = .ok (.istore_n 2, 1) := by decide +kernel
theorem dX8_keyThrown_11 : decode cX8_keyThrown 11 = .ok (.iconst 0, 1) := by decide +kernel
theorem dX8_keyThrown_12 : decode cX8_keyThrown 12 = .ok (.istore_n 3, 1) := by decide +kernel
theorem dX8_keyThrown_13 : decode cX8_keyThrown 13 = .ok (.iload_n 3, 1) := by decide +kernel
theorem dX8_keyThrown_14 : decode cX8_keyThrown 14 = .ok (.aload_n 0, 1) := by decide +kernel
theorem dX8_keyThrown_15 : decode cX8_keyThrown 15 = .ok (.getfield 7, 3) := by decide +kernel
theorem dX8_keyThrown_18 : decode cX8_keyThrown 18 = .ok (.iconst 2, 1) := by decide +kernel
theorem dX8_keyThrown_19 : decode cX8_keyThrown 19 = .ok (.iaload, 1) := by decide +kernel
theorem dX8_keyThrown_20 : decode cX8_keyThrown 20 = .ok (.if_icmp .ge 30, 3) := by decide +kernel
theorem dX8_keyThrown_23 : decode cX8_keyThrown 23 = .ok (.aload_n 0, 1) := by decide +kernel
theorem dX8_keyThrown_24 : decode cX8_keyThrown 24 = .ok (.aload_n 0, 1) := by decide +kernel
theorem dX8_keyThrown_25 : decode cX8_keyThrown 25 = .ok (.iload_n 3, 1) := by decide +kernel
theorem dX8_keyThrown_26 : decode cX8_keyThrown 26 = .ok (.iconst 0, 1) := by decide +kernel
theorem dX8_keyThrown_27 : decode cX8_keyThrown 27 = .ok (.invokevirtual 51, 3) := by decide +kernel
theorem dX8_keyThrown_30 : decode cX8_keyThrown 30 = .ok (.iload_n 1, 1) := by decide +kernel
theorem dX8_keyThrown_31 : decode cX8_keyThrown 31 = .ok (.invokevirtual 165, 3) := by decide +kernel
theorem dX8_keyThrown_34 : decode cX8_keyThrown 34 = .ok (.ifCond .eq 10, 3) := by decide +kernel
theorem dX8_keyThrown_37 : decode cX8_keyThrown 37 = .ok (.aload_n 0, 1) := by decide +kernel
theorem dX8_keyThrown_38 : decode cX8_keyThrown 38 = .ok (.iload_n 3, 1) := by decide +kernel
theorem dX8_keyThrown_39 : decode cX8_keyThrown 39 = .ok (.iconst 1, 1) := by decide +kernel
theorem dX8_keyThrown_40 : decode cX8_keyThrown 40 = .ok (.iconst 0, 1) := by decide +kernel
theorem dX8_keyThrown_41 : decode cX8_keyThrown 41 = .ok (.invokevirtual 117, 3) := by decide +kernel
theorem dX8_keyThrown_44 : decode cX8_keyThrown 44 = .ok (.iinc 3 1, 3) := by decide +kernel
theorem dX8_keyThrown_47 : decode cX8_keyThrown 47 = .ok (.goto (-34), 3) := by decide +kernel
theorem dX8_keyThrown_50 : decode cX8_keyThrown 50 = .ok (.iconst 0, 1) := by decide +kernel
theorem dX8_keyThrown_51 : decode cX8_keyThrown 51 = .ok (.istore_n 3, 1) := by decide +kernel
theorem dX8_keyThrown_52 : decode cX8_keyThrown 52 = .ok (.iload_n 3, 1) := by decide +kernel
theorem dX8_keyThrown_53 : decode cX8_keyThrown 53 = .ok (.aload_n 0, 1) := by decide +kernel
theorem dX8_keyThrown_54 : decode cX8_keyThrown 54 = .ok (.getfield 7, 3) := by decide +kernel
theorem dX8_keyThrown_57 : decode cX8_keyThrown 57 = .ok (.iconst 1, 1) := by decide +kernel
theorem dX8_keyThrown_58 : decode cX8_keyThrown 58 = .ok (.iaload, 1) := by decide +kernel
theorem dX8_keyThrown_59 : decode cX8_keyThrown 59 = .ok (.if_icmp .ge 25, 3) := by decide +kernel
theorem dX8_keyThrown_62 : decode cX8_keyThrown 62 = .ok (.aload_n 0, 1) := by decide +kernel
theorem dX8_keyThrown_63 : decode cX8_keyThrown 63 = .ok (.iload_n 3, 1) := by decide +kernel
theorem dX8_keyThrown_64 : decode cX8_keyThrown 64 = .ok (.iload_n 1, 1) := by decide +kernel
theorem dX8_keyThrown_65 : decode cX8_keyThrown 65 = .ok (.invokevirtual 165, 3) := by decide +kernel
theorem dX8_keyThrown_68 : decode cX8_keyThrown 68 = .ok (.ifCond .eq 10, 3) := by decide +kernel
theorem dX8_keyThrown_71 : decode cX8_keyThrown 71 = .ok (.aload_n 0, 1) := by decide +kernel
theorem dX8_keyThrown_72 : decode cX8_keyThrown 72 = .ok (.iload_n 3, 1) := by decide +kernel
theorem dX8_keyThrown_73 : decode cX8_keyThrown 73 = .ok (.iconst 1, 1) := by decide +kernel
theorem dX8_keyThrown_74 : decode cX8_keyThrown 74 = .ok (.iconst 0, 1) := by decide +kernel
theorem dX8_keyThrown_75 : decode cX8_keyThrown 75 = .ok (.invokevirtual 68, 3) := by decide +kernel
theorem dX8_keyThrown_78 : decode cX8_keyThrown 78 = .ok (.iinc 3 1, 3) := by decide +kernel
theorem dX8_keyThrown_81 : decode cX8_keyThrown 81 = .ok (.goto (-29), 3) := by decide +kernel
theorem dX8_keyThrown_84 : decode cX8_keyThrown 84 = .ok (.aload_n 0, 1) := by decide +kernel
theorem dX8_keyThrown_85 : decode cX8_keyThrown 85 = .ok (.aload_n 0, 1) := by decide +kernel
theorem dX8_keyThrown_86 : decode cX8_keyThrown 86 = .ok (.iload_n 1, 1) := by decide +kernel
theorem dX8_keyThrown_87 : decode cX8_keyThrown 87 = .ok (.iconst 0, 1) := by decide +kernel
theorem dX8_keyThrown_88 : decode cX8_keyThrown 88 = .ok (.invokevirtual 44, 3) := by decide +kernel
theorem dX8_keyThrown_91 : decode cX8_keyThrown 91 = .ok (.invokevirtual 168, 3) := by decide +kernel
theorem dX8_keyThrown_94 : decode cX8_keyThrown 94 = .ok (.iload_n 2, 1) := by decide +kernel
theorem dX8_keyThrown_95 : decode cX8_keyThrown 95 = .ok (.ireturn, 1) := by decide +kernel
theorem dX8_throwKey_0 : decode cX8_throwKey 0 = .ok (.aload_n 0, 1) := by decide +kernel
theorem dX8_throwKey_1 : decode cX8_throwKey 1 = .ok (.iload_n 1, 1) := by decide +kernel
theorem dX8_throwKey_2 : decode cX8_throwKey 2 = .ok (.invokevirtual 171, 3) := by decide +kernel
theorem dX8_throwKey_5 : decode cX8_throwKey 5 = .ok (.istore_n 2, 1) := by decide +kernel
theorem dX8_throwKey_6 : decode cX8_throwKey 6 = .ok (.iload_n 2, 1) := by decide +kernel
theorem dX8_throwKey_7 : decode cX8_throwKey 7 = .ok (.ifCond .ge 5, 3) := by decide +kernel
theorem dX8_throwKey_10 : decode cX8_throwKey 10 = .ok (.iload_n 2, 1) := by decide +kernel
theorem dX8_throwKey_11 : decode cX8_throwKey 11 = .ok (.ireturn, 1) := by decide +kernel
theorem dX8_throwKey_12 : decode cX8_throwKey 12 = .ok (.aload_n 0, 1) := by decide +kernel
theorem dX8_throwKey_13 : decode cX8_throwKey 13 = .ok (.invokevirtual 102, 3) := by decide +kernel
theorem dX8_throwKey_16 : decode cX8_throwKey 16 = .ok (.aload_n 0, 1) := by decide +kernel
theorem dX8_throwKey_17 : decode cX8_throwKey 17 = .ok (.iload_n 1, 1) := by decide +kernel
theorem dX8_throwKey_18 : decode cX8_throwKey 18 = .ok (.invokevirtual 174, 3) := by decide +kernel
theorem dX8_throwKey_21 : decode cX8_throwKey 21 = .ok (.ireturn, 1) := by decide +kernel
theorem dX8_whyBoxNotThrown_0 : decode cX8_whyBoxNotThrown 0 = .ok (.aload_n 0, 1) := by decide +kernel
theorem dX8_whyBoxNotThrown_1 : decode cX8_whyBoxNotThrown 1 = .ok (.iload_n 1, 1) := by decide +kernel
theorem dX8_whyBoxNotThrown_2 : decode cX8_whyBoxNotThrown 2 = .ok (.invokevirtual 177, 3) := by decide +kernel
theorem dX8_whyBoxNotThrown_5 : decode cX8_whyBoxNotThrown 5 = .ok (.ifCond .eq 16, 3) := by decide +kernel
theorem dX8_whyBoxNotThrown_8 : decode cX8_whyBoxNotThrown 8 = .ok (.aload_n 0, 1) := by decide +kernel
theorem dX8_whyBoxNotThrown_9 : decode cX8_whyBoxNotThrown 9 = .ok (.aload_n 0, 1) := by decide +kernel
theorem dX8_whyBoxNotThrown_10 : decode cX8_whyBoxNotThrown 10 = .ok (.iload_n 1, 1) := by decide +kernel
theorem dX8_whyBoxNotThrown_11 : decode cX8_whyBoxNotThrown 11 = .ok (.iconst 0, 1) := by decide +kernel
theorem dX8_whyBoxNotThrown_12 : decode cX8_whyBoxNotThrown 12 = .ok (.invokevirtual 51, 3) := by decide +kernel
theorem dX8_whyBoxNotThrown_15 : decode cX8_whyBoxNotThrown 15 = .ok (.invokevirtual 162, 3) := by decide +kernel
theorem dX8_whyBoxNotThrown_18 : decode cX8_whyBoxNotThrown 18 = .ok (.goto 4, 3) := by decide +kernel
theorem dX8_whyBoxNotThrown_21 : decode cX8_whyBoxNotThrown 21 = .ok (.iconst (-1), 1) := by decide +kernel
theorem dX8_whyBoxNotThrown_22 : decode cX8_whyBoxNotThrown 22 = .ok (.ireturn, 1) := by decide +kernel
theorem dX8_boxThrown_0 : decode cX8_boxThrown 0 = .ok (.aload_n 0, 1) := by decide +kernel
theorem dX8_boxThrown_1 : decode cX8_boxThrown 1 = .ok (.aload_n 0, 1) := by decide +kernel
theorem dX8_boxThrown_2 : decode cX8_boxThrown 2 = .ok (.iload_n 1, 1) := by decide +kernel
theorem dX8_boxThrown_3 : decode cX8_boxThrown 3 = .ok (.iconst 0, 1) := by decide +kernel
theorem dX8_boxThrown_4 : decode cX8_boxThrown 4 = .ok (.invokevirtual 51, 3) := by decide +kernel
theorem dX8_boxThrown_7 : decode cX8_boxThrown 7 = .ok (.invokevirtual 153, 3) := by decide +kernel
theorem dX8_boxThrown_10 : decode cX8_boxThrown 10 = .ok (.istore_n 2, 1) := by decide +kernel
theorem dX8_boxThrown_11 : decode cX8_boxThrown 11 = .ok (.aload_n 0, 1) := by decide +kernel
theorem dX8_boxThrown_12 : decode cX8_boxThrown 12 = .ok (.iload_n 1, 1) := by decide +kernel
theorem dX8_boxThrown_13 : decode cX8_boxThrown 13 = .ok (.iconst 1, 1) := by decide +kernel
theorem dX8_boxThrown_14 : decode cX8_boxThrown 14 = .ok (.iconst 0, 1) := by decide +kernel
theorem dX8_boxThrown_15 : decode cX8_boxThrown 15 = .ok (.invokevirtual 117, 3) := by decide +kernel
theorem dX8_boxThrown_18 : decode cX8_boxThrown 18 = .ok (.aload_n 0, 1) := by decide +kernel
theorem dX8_boxThrown_19 : decode cX8_boxThrown 19 = .ok (.aload_n 0, 1) := by decide +kernel
theorem dX8_boxThrown_20 : decode cX8_boxThrown 20 = .ok (.iload_n 1, 1) := by decide +kernel
theorem dX8_boxThrown_21 : decode cX8_boxThrown 21 = .ok (.iconst 0, 1) := by decide +kernel
theorem dX8_boxThrown_22 : decode cX8_boxThrown 22 = .ok (.invokevirtual 51, 3) := by decide +kernel
theorem dX8_boxThrown_25 : decode cX8_boxThrown 25 = .ok (.invokevirtual 168, 3) := by decide +kernel
theorem dX8_boxThrown_28 : decode cX8_boxThrown 28 = .ok (.iload_n 2, 1) := by decide +kernel
theorem dX8_boxThrown_29 : decode cX8_boxThrown 29 = .ok (.ireturn, 1) := by decide +kernel
theorem dX8_throwBox_0 : decode cX8_throwBox 0 = .ok (.aload_n 0, 1) := by decide +kernel
theorem dX8_throwBox_1 : decode cX8_throwBox 1 = .ok (.iload_n 1, 1) := by decide +kernel
theorem dX8_throwBox_2 : decode cX8_throwBox 2 = .ok (.invokevirtual 180, 3) := by decide +kernel
theorem dX8_throwBox_5 : decode cX8_throwBox 5 = .ok (.istore_n 2, 1) := by decide +kernel
theorem dX8_throwBox_6 : decode cX8_throwBox 6 = .ok (.iload_n 2, 1) := by decide +kernel
theorem dX8_throwBox_7 : decode cX8_throwBox 7 = .ok (.ifCond .ge 5, 3) := by decide +kernel
theorem dX8_throwBox_10 : decode cX8_throwBox 10 = .ok (.iload_n 2, 1) := by decide +kernel
theorem dX8_throwBox_11 : decode cX8_throwBox 11 = .ok (.ireturn, 1) := by decide +kernel
theorem dX8_throwBox_12 : decode cX8_throwBox 12 = .ok (.aload_n 0, 1) := by decide +kernel
theorem dX8_throwBox_13 : decode cX8_throwBox 13 = .ok (.invokevirtual 102, 3) := by decide +kernel
theorem dX8_throwBox_16 : decode cX8_throwBox 16 = .ok (.aload_n 0, 1) := by decide +kernel
theorem dX8_throwBox_17 : decode cX8_throwBox 17 = .ok (.iload_n 1, 1) := by decide +kernel
theorem dX8_throwBox_18 : decode cX8_throwBox 18 = .ok (.invokevirtual 183, 3) := by decide +kernel
theorem dX8_throwBox_21 : decode cX8_throwBox 21 = .ok (.ireturn, 1) := by decide +kernel
theorem dX8_ofKey_0 : decode cX8_ofKey 0 = .ok (.aload_n 0, 1) := by decide +kernel
theorem dX8_ofKey_1 : decode cX8_ofKey 1 = .ok (.iload_n 1, 1) := by decide +kernel
theorem dX8_ofKey_2 : decode cX8_ofKey 2 = .ok (.invokevirtual 40, 3) := by decide +kernel
theorem dX8_ofKey_5 : decode cX8_ofKey 5 = .ok (.ifCond .ne 5, 3) := by decide +kernel
theorem dX8_ofKey_8 : decode cX8_ofKey 8 = .ok (.iconst (-1), 1) := by decide +kernel
theorem dX8_ofKey_9 : decode cX8_ofKey 9 = .ok (.ireturn, 1) := by decide +kernel
theorem dX8_ofKey_10 : decode cX8_ofKey 10 = .ok (.iload_n 2, 1) := by decide +kernel
theorem dX8_ofKey_11 : decode cX8_ofKey 11 = .ok (.tableswitch 66 0 6 #[41, 41, 41, 41, 48, 54, 60], 41) := by decide +kernel
theorem dX8_ofKey_52 : decode cX8_ofKey 52 = .ok (.aload_n 0, 1) := by decide +kernel
theorem dX8_ofKey_53 : decode cX8_ofKey 53 = .ok (.iload_n 1, 1) := by decide +kernel
theorem dX8_ofKey_54 : decode cX8_ofKey 54 = .ok (.iload_n 2, 1) := by decide +kernel
theorem dX8_ofKey_55 : decode cX8_ofKey 55 = .ok (.invokevirtual 44, 3) := by decide +kernel
theorem dX8_ofKey_58 : decode cX8_ofKey 58 = .ok (.ireturn, 1) := by decide +kernel
theorem dX8_ofKey_59 : decode cX8_ofKey 59 = .ok (.aload_n 0, 1) := by decide +kernel
theorem dX8_ofKey_60 : decode cX8_ofKey 60 = .ok (.iload_n 1, 1) := by decide +kernel
theorem dX8_ofKey_61 : decode cX8_ofKey 61 = .ok (.invokevirtual 54, 3) := by decide +kernel
theorem dX8_ofKey_64 : decode cX8_ofKey 64 = .ok (.ireturn, 1) := by decide +kernel
theorem dX8_ofKey_65 : decode cX8_ofKey 65 = .ok (.aload_n 0, 1) := by decide +kernel
theorem dX8_ofKey_66 : decode cX8_ofKey 66 = .ok (.iload_n 1, 1) := by decide +kernel
theorem dX8_ofKey_67 : decode cX8_ofKey 67 = .ok (.invokevirtual 61, 3) := by decide +kernel
theorem dX8_ofKey_70 : decode cX8_ofKey 70 = .ok (.ireturn, 1) := by decide +kernel
theorem dX8_ofKey_71 : decode cX8_ofKey 71 = .ok (.aload_n 0, 1) := by decide +kernel
theorem dX8_ofKey_72 : decode cX8_ofKey 72 = .ok (.iload_n 1, 1) := by decide +kernel
theorem dX8_ofKey_73 : decode cX8_ofKey 73 = .ok (.invokevirtual 156, 3) := by decide +kernel
theorem dX8_ofKey_76 : decode cX8_ofKey 76 = .ok (.ireturn, 1) := by decide +kernel
theorem dX8_ofKey_77 : decode cX8_ofKey 77 = .ok (.bipush (-2), 2) := by decide +kernel
theorem dX8_ofKey_79 : decode cX8_ofKey 79 = .ok (.ireturn, 1) := by decide +kernel
theorem dX8_ofBox_0 : decode cX8_ofBox 0 = .ok (.aload_n 0, 1) := by decide +kernel
theorem dX8_ofBox_1 : decode cX8_ofBox 1 = .ok (.iload_n 1, 1) := by decide +kernel
theorem dX8_ofBox_2 : decode cX8_ofBox 2 = .ok (.invokevirtual 48, 3) := by decide +kernel
theorem dX8_ofBox_5 : decode cX8_ofBox 5 = .ok (.ifCond .ne 5, 3) := by decide +kernel
theorem dX8_ofBox_8 : decode cX8_ofBox 8 = .ok (.iconst (-1), 1) := by decide +kernel
theorem dX8_ofBox_9 : decode cX8_ofBox 9 = .ok (.ireturn, 1) := by decide +kernel
theorem dX8_ofBox_10 : decode cX8_ofBox 10 = .ok (.iload_n 2, 1) := by decide +kernel
theorem dX8_ofBox_11 : decode cX8_ofBox 11 = .ok (.tableswitch 57 0 3 #[29, 29, 36, 46], 29) := by decide +kernel
theorem dX8_ofBox_40 : decode cX8_ofBox 40 = .ok (.aload_n 0, 1) := by decide +kernel
theorem dX8_ofBox_41 : decode cX8_ofBox 41 = .ok (.iload_n 1, 1) := by decide +kernel
theorem dX8_ofBox_42 : decode cX8_ofBox 42 = .ok (.iload_n 2, 1) := by decide +kernel
theorem dX8_ofBox_43 : decode cX8_ofBox 43 = .ok (.invokevirtual 51, 3) := by decide +kernel
theorem dX8_ofBox_46 : decode cX8_ofBox 46 = .ok (.ireturn, 1) := by decide +kernel
theorem dX8_ofBox_47 : decode cX8_ofBox 47 = .ok (.aload_n 0, 1) := by decide +kernel
theorem dX8_ofBox_48 : decode cX8_ofBox 48 = .ok (.iconst 0, 1) := by decide +kernel
theorem dX8_ofBox_49 : decode cX8_ofBox 49 = .ok (.invokevirtual 186, 3) := by decide +kernel
theorem dX8_ofBox_52 : decode cX8_ofBox 52 = .ok (.iload_n 1, 1) := by decide +kernel
theorem dX8_ofBox_53 : decode cX8_ofBox 53 = .ok (.ishr, 1) := by decide +kernel
theorem dX8_ofBox_54 : decode cX8_ofBox 54 = .ok (.iconst 1, 1) := by decide +kernel
theorem dX8_ofBox_55 : decode cX8_ofBox 55 = .ok (.iand, 1) := by decide +kernel
theorem dX8_ofBox_56 : decode cX8_ofBox 56 = .ok (.ireturn, 1) := by decide +kernel
theorem dX8_ofBox_57 : decode cX8_ofBox 57 = .ok (.aload_n 0, 1) := by decide +kernel
theorem dX8_ofBox_58 : decode cX8_ofBox 58 = .ok (.bipush 7, 2) := by decide +kernel
theorem dX8_ofBox_60 : decode cX8_ofBox 60 = .ok (.invokevirtual 186, 3) := by decide +kernel
theorem dX8_ofBox_63 : decode cX8_ofBox 63 = .ok (.iload_n 1, 1) := by decide +kernel
theorem dX8_ofBox_64 : decode cX8_ofBox 64 = .ok (.ishr, 1) := by decide +kernel
theorem dX8_ofBox_65 : decode cX8_ofBox 65 = .ok (.iconst 1, 1) := by decide +kernel
theorem dX8_ofBox_66 : decode cX8_ofBox 66 = .ok (.iand, 1) := by decide +kernel
theorem dX8_ofBox_67 : decode cX8_ofBox 67 = .ok (.ireturn, 1) := by decide +kernel
theorem dX8_ofBox_68 : decode cX8_ofBox 68 = .ok (.bipush (-2), 2) := by decide +kernel
theorem dX8_ofBox_70 : decode cX8_ofBox 70 = .ok (.ireturn, 1) := by decide +kernel
theorem dX8_wrap_0 : decode cX8_wrap 0 = .ok (.iload_n 1, 1) := by decide +kernel
theorem dX8_wrap_1 : decode cX8_wrap 1 = .ok (.iconst 0, 1) := by decide +kernel
theorem dX8_wrap_2 : decode cX8_wrap 2 = .ok (.aload_n 0, 1) := by decide +kernel
theorem dX8_wrap_3 : decode cX8_wrap 3 = .ok (.getfield 7, 3) := by decide +kernel
theorem dX8_wrap_6 : decode cX8_wrap 6 = .ok (.iconst 3, 1) := by decide +kernel
theorem dX8_wrap_7 : decode cX8_wrap 7 = .ok (.iaload, 1) := by decide +kernel
theorem dX8_wrap_8 : decode cX8_wrap 8 = .ok (.iconst 1, 1) := by decide +kernel
theorem dX8_wrap_9 : decode cX8_wrap 9 = .ok (.isub, 1) := by decide +kernel
theorem dX8_wrap_10 : decode cX8_wrap 10 = .ok (.invokestatic 36, 3) := by decide +kernel
theorem dX8_wrap_13 : decode cX8_wrap 13 = .ok (.ifCond .ne 5, 3) := by decide +kernel
theorem dX8_wrap_16 : decode cX8_wrap 16 = .ok (.iconst (-1), 1) := by decide +kernel
theorem dX8_wrap_17 : decode cX8_wrap 17 = .ok (.ireturn, 1) := by decide +kernel
theorem dX8_wrap_18 : decode cX8_wrap 18 = .ok (.iload_n 2, 1) := by decide +kernel
theorem dX8_wrap_19 : decode cX8_wrap 19 = .ok (.iconst 0, 1) := by decide +kernel
theorem dX8_wrap_20 : decode cX8_wrap 20 = .ok (.iconst 5, 1) := by decide +kernel
theorem dX8_wrap_21 : decode cX8_wrap 21 = .ok (.invokestatic 36, 3) := by decide +kernel
theorem dX8_wrap_24 : decode cX8_wrap 24 = .ok (.ifCond .eq 12, 3) := by decide +kernel
theorem dX8_wrap_27 : decode cX8_wrap 27 = .ok (.aload_n 0, 1) := by decide +kernel
theorem dX8_wrap_28 : decode cX8_wrap 28 = .ok (.iload_n 1, 1) := by decide +kernel
theorem dX8_wrap_29 : decode cX8_wrap 29 = .ok (.iload_n 2, 1) := by decide +kernel
theorem dX8_wrap_30 : decode cX8_wrap 30 = .ok (.invokevirtual 81, 3) := by decide +kernel
theorem dX8_wrap_33 : decode cX8_wrap 33 = .ok (.goto 5, 3) := by decide +kernel
theorem dX8_wrap_36 : decode cX8_wrap 36 = .ok (.bipush (-2), 2) := by decide +kernel
theorem dX8_wrap_38 : decode cX8_wrap 38 = .ok (.ireturn, 1) := by decide +kernel
theorem dX8_liveKeys_0 : decode cX8_liveKeys 0 = .ok (.iconst 0, 1) := by decide +kernel
theorem dX8_liveKeys_1 : decode cX8_liveKeys 1 = .ok (.istore_n 1, 1) := by decide +kernel
theorem dX8_liveKeys_2 : decode cX8_liveKeys 2 = .ok (.iconst 0, 1) := by decide +kernel
theorem dX8_liveKeys_3 : decode cX8_liveKeys 3 = .ok (.istore_n 2, 1) := by decide +kernel
theorem dX8_liveKeys_4 : decode cX8_liveKeys 4 = .ok (.iload_n 2, 1) := by decide +kernel
theorem dX8_liveKeys_5 : decode cX8_liveKeys 5 = .ok (.aload_n 0, 1) := by decide +kernel
theorem dX8_liveKeys_6 : decode cX8_liveKeys 6 = .ok (.getfield 7, 3) := by decide +kernel
theorem dX8_liveKeys_9 : decode cX8_liveKeys 9 = .ok (.iconst 1, 1) := by decide +kernel
theorem dX8_liveKeys_10 : decode cX8_liveKeys 10 = .ok (.iaload, 1) := by decide +kernel
theorem dX8_liveKeys_11 : decode cX8_liveKeys 11 = .ok (.if_icmp .ge 18, 3) := by decide +kernel
theorem dX8_liveKeys_14 : decode cX8_liveKeys 14 = .ok (.iload_n 1, 1) := by decide +kernel
theorem dX8_liveKeys_15 : decode cX8_liveKeys 15 = .ok (.aload_n 0, 1) := by decide +kernel
theorem dX8_liveKeys_16 : decode cX8_liveKeys 16 = .ok (.iload_n 2, 1) := by decide +kernel
theorem dX8_liveKeys_17 : decode cX8_liveKeys 17 = .ok (.iconst 1, 1) := by decide +kernel
theorem dX8_liveKeys_18 : decode cX8_liveKeys 18 = .ok (.invokevirtual 44, 3) := by decide +kernel
theorem dX8_liveKeys_21 : decode cX8_liveKeys 21 = .ok (.iadd, 1) := by decide +kernel
theorem dX8_liveKeys_22 : decode cX8_liveKeys 22 = .ok (.istore_n 1, 1) := by decide +kernel
theorem dX8_liveKeys_23 : decode cX8_liveKeys 23 = .ok (.iinc 2 1, 3) := by decide +kernel
theorem dX8_liveKeys_26 : decode cX8_liveKeys 26 = .ok (.goto (-22), 3) := by decide +kernel
theorem dX8_liveKeys_29 : decode cX8_liveKeys 29 = .ok (.iload_n 1, 1) := by decide +kernel
theorem dX8_liveKeys_30 : decode cX8_liveKeys 30 = .ok (.ireturn, 1) := by decide +kernel
theorem dX8_liveBoxes_0 : decode cX8_liveBoxes 0 = .ok (.iconst 0, 1) := by decide +kernel
theorem dX8_liveBoxes_1 : decode cX8_liveBoxes 1 = .ok (.istore_n 1, 1) := by decide +kernel
theorem dX8_liveBoxes_2 : decode cX8_liveBoxes 2 = .ok (.iconst 0, 1) := by decide +kernel
theorem dX8_liveBoxes_3 : decode cX8_liveBoxes 3 = .ok (.istore_n 2, 1) := by decide +kernel
theorem dX8_liveBoxes_4 : decode cX8_liveBoxes 4 = .ok (.iload_n 2, 1) := by decide +kernel
theorem dX8_liveBoxes_5 : decode cX8_liveBoxes 5 = .ok (.aload_n 0, 1) := by decide +kernel
theorem dX8_liveBoxes_6 : decode cX8_liveBoxes 6 = .ok (.getfield 7, 3) := by decide +kernel
theorem dX8_liveBoxes_9 : decode cX8_liveBoxes 9 = .ok (.iconst 2, 1) := by decide +kernel
theorem dX8_liveBoxes_10 : decode cX8_liveBoxes 10 = .ok (.iaload, 1) := by decide +kernel
theorem dX8_liveBoxes_11 : decode cX8_liveBoxes 11 = .ok (.if_icmp .ge 18, 3) := by decide +kernel
theorem dX8_liveBoxes_14 : decode cX8_liveBoxes 14 = .ok (.iload_n 1, 1) := by decide +kernel
theorem dX8_liveBoxes_15 : decode cX8_liveBoxes 15 = .ok (.aload_n 0, 1) := by decide +kernel
theorem dX8_liveBoxes_16 : decode cX8_liveBoxes 16 = .ok (.iload_n 2, 1) := by decide +kernel
theorem dX8_liveBoxes_17 : decode cX8_liveBoxes 17 = .ok (.iconst 1, 1) := by decide +kernel
theorem dX8_liveBoxes_18 : decode cX8_liveBoxes 18 = .ok (.invokevirtual 51, 3) := by decide +kernel
theorem dX8_liveBoxes_21 : decode cX8_liveBoxes 21 = .ok (.iadd, 1) := by decide +kernel
theorem dX8_liveBoxes_22 : decode cX8_liveBoxes 22 = .ok (.istore_n 1, 1) := by decide +kernel
theorem dX8_liveBoxes_23 : decode cX8_liveBoxes 23 = .ok (.iinc 2 1, 3) := by decide +kernel
theorem dX8_liveBoxes_26 : decode cX8_liveBoxes 26 = .ok (.goto (-22), 3) := by decide +kernel
theorem dX8_liveBoxes_29 : decode cX8_liveBoxes 29 = .ok (.iload_n 1, 1) := by decide +kernel
theorem dX8_liveBoxes_30 : decode cX8_liveBoxes 30 = .ok (.ireturn, 1) := by decide +kernel
theorem dX8_inHouse_0 : decode cX8_inHouse 0 = .ok (.iconst 0, 1) := by decide +kernel
theorem dX8_inHouse_1 : decode cX8_inHouse 1 = .ok (.istore_n 1, 1) := by decide +kernel
theorem dX8_inHouse_2 : decode cX8_inHouse 2 = .ok (.iconst 0, 1) := by decide +kernel
theorem dX8_inHouse_3 : decode cX8_inHouse 3 = .ok (.istore_n 2, 1) := by decide +kernel
theorem dX8_inHouse_4 : decode cX8_inHouse 4 = .ok (.iload_n 2, 1) := by decide +kernel
theorem dX8_inHouse_5 : decode cX8_inHouse 5 = .ok (.aload_n 0, 1) := by decide +kernel
theorem dX8_inHouse_6 : decode cX8_inHouse 6 = .ok (.getfield 7, 3) := by decide +kernel
theorem dX8_inHouse_9 : decode cX8_inHouse 9 = .ok (.iconst 3, 1) := by decide +kernel
theorem dX8_inHouse_10 : decode cX8_inHouse 10 = .ok (.iaload, 1) := by decide +kernel
theorem dX8_inHouse_11 : decode cX8_inHouse 11 = .ok (.if_icmp .ge 18, 3) := by decide +kernel
theorem dX8_inHouse_14 : decode cX8_inHouse 14 = .ok (.iload_n 1, 1) := by decide +kernel
theorem dX8_inHouse_15 : decode cX8_inHouse 15 = .ok (.aload_n 0, 1) := by decide +kernel
theorem dX8_inHouse_16 : decode cX8_inHouse 16 = .ok (.iload_n 2, 1) := by decide +kernel
theorem dX8_inHouse_17 : decode cX8_inHouse 17 = .ok (.iconst 4, 1) := by decide +kernel
theorem dX8_inHouse_18 : decode cX8_inHouse 18 = .ok (.invokevirtual 81, 3) := by decide +kernel
theorem dX8_inHouse_21 : decode cX8_inHouse 21 = .ok (.iadd, 1) := by decide +kernel
theorem dX8_inHouse_22 : decode cX8_inHouse 22 = .ok (.istore_n 1, 1) := by decide +kernel
theorem dX8_inHouse_23 : decode cX8_inHouse 23 = .ok (.iinc 2 1, 3) := by decide +kernel
theorem dX8_inHouse_26 : decode cX8_inHouse 26 = .ok (.goto (-22), 3) := by decide +kernel
theorem dX8_inHouse_29 : decode cX8_inHouse 29 = .ok (.iload_n 1, 1) := by decide +kernel
theorem dX8_inHouse_30 : decode cX8_inHouse 30 = .ok (.ireturn, 1) := by decide +kernel
theorem dX8_outside_0 : decode cX8_outside 0 = .ok (.iconst 0, 1) := by decide +kernel
theorem dX8_outside_1 : decode cX8_outside 1 = .ok (.istore_n 1, 1) := by decide +kernel
theorem dX8_outside_2 : decode cX8_outside 2 = .ok (.iconst 0, 1) := by decide +kernel
theorem dX8_outside_3 : decode cX8_outside 3 = .ok (.istore_n 2, 1) := by decide +kernel
theorem dX8_outside_4 : decode cX8_outside 4 = .ok (.iload_n 2, 1) := by decide +kernel
theorem dX8_outside_5 : decode cX8_outside 5 = .ok (.aload_n 0, 1) := by decide +kernel
theorem dX8_outside_6 : decode cX8_outside 6 = .ok (.getfield 7, 3) := by decide +kernel
theorem dX8_outside_9 : decode cX8_outside 9 = .ok (.iconst 3, 1) := by decide +kernel
theorem dX8_outside_10 : decode cX8_outside 10 = .ok (.iaload, 1) := by decide +kernel
theorem dX8_outside_11 : decode cX8_outside 11 = .ok (.if_icmp .ge 21, 3) := by decide +kernel
theorem dX8_outside_14 : decode cX8_outside 14 = .ok (.iload_n 1, 1) := by decide +kernel
theorem dX8_outside_15 : decode cX8_outside 15 = .ok (.aload_n 0, 1) := by decide +kernel
theorem dX8_outside_16 : decode cX8_outside 16 = .ok (.iload_n 2, 1) := by decide +kernel
theorem dX8_outside_17 : decode cX8_outside 17 = .ok (.iconst 5, 1) := by decide +kernel
theorem dX8_outside_18 : decode cX8_outside 18 = .ok (.invokevirtual 81, 3) := by decide +kernel
theorem dX8_outside_21 : decode cX8_outside 21 = .ok (.invokestatic 58, 3) := by decide +kernel
theorem dX8_outside_24 : decode cX8_outside 24 = .ok (.iadd, 1) := by decide +kernel
theorem dX8_outside_25 : decode cX8_outside 25 = .ok (.istore_n 1, 1) := by decide +kernel
theorem dX8_outside_26 : decode cX8_outside 26 = .ok (.iinc 2 1, 3) := by decide +kernel
theorem dX8_outside_29 : decode cX8_outside 29 = .ok (.goto (-25), 3) := by decide +kernel
theorem dX8_outside_32 : decode cX8_outside 32 = .ok (.iload_n 1, 1) := by decide +kernel
theorem dX8_outside_33 : decode cX8_outside 33 = .ok (.ireturn, 1) := by decide +kernel
theorem dX8_wornKeys_0 : decode cX8_wornKeys 0 = .ok (.iconst 0, 1) := by decide +kernel
theorem dX8_wornKeys_1 : decode cX8_wornKeys 1 = .ok (.istore_n 1, 1) := by decide +kernel
theorem dX8_wornKeys_2 : decode cX8_wornKeys 2 = .ok (.iconst 0, 1) := by decide +kernel
theorem dX8_wornKeys_3 : decode cX8_wornKeys 3 = .ok (.istore_n 2, 1) := by decide +kernel
theorem dX8_wornKeys_4 : decode cX8_wornKeys 4 = .ok (.iload_n 2, 1) := by decide +kernel
theorem dX8_wornKeys_5 : decode cX8_wornKeys 5 = .ok (.aload_n 0, 1) := by decide +kernel
theorem dX8_wornKeys_6 : decode cX8_wornKeys 6 = .ok (.getfield 7, 3) := by decide +kernel
theorem dX8_wornKeys_9 : decode cX8_wornKeys 9 = .ok (.iconst 1, 1) := by decide +kernel
theorem dX8_wornKeys_10 : decode cX8_wornKeys 10 = .ok (.iaload, 1) := by decide +kernel
theorem dX8_wornKeys_11 : decode cX8_wornKeys 11 = .ok (.if_icmp .ge 37, 3) := by decide +kernel
theorem dX8_wornKeys_14 : decode cX8_wornKeys 14 = .ok (.iload_n 1, 1) := by decide +kernel
theorem dX8_wornKeys_15 : decode cX8_wornKeys 15 = .ok (.aload_n 0, 1) := by decide +kernel
theorem dX8_wornKeys_16 : decode cX8_wornKeys 16 = .ok (.iload_n 2, 1) := by decide +kernel
theorem dX8_wornKeys_17 : decode cX8_wornKeys 17 = .ok (.iconst 1, 1) := by decide +kernel
theorem dX8_wornKeys_18 : decode cX8_wornKeys 18 = .ok (.invokevirtual 44, 3) := by decide +kernel
theorem dX8_wornKeys_21 : decode cX8_wornKeys 21 = .ok (.iconst 1, 1) := by decide +kernel
theorem dX8_wornKeys_22 : decode cX8_wornKeys 22 = .ok (.if_icmp .ne 17, 3) := by decide +kernel
theorem dX8_wornKeys_25 : decode cX8_wornKeys 25 = .ok (.aload_n 0, 1) := by decide +kernel
theorem dX8_wornKeys_26 : decode cX8_wornKeys 26 = .ok (.iload_n 2, 1) := by decide +kernel
theorem dX8_wornKeys_27 : decode cX8_wornKeys 27 = .ok (.invokevirtual 108, 3) := by decide +kernel
theorem dX8_wornKeys_30 : decode cX8_wornKeys 30 = .ok (.ifCond .ne 9, 3) := by decide +kernel
theorem dX8_wornKeys_33 : decode cX8_wornKeys 33 = .ok (.iconst 1, 1) := by decide +kernel
theorem dX8_wornKeys_34 : decode cX8_wornKeys 34 = .ok (.iload_n 2, 1) := by decide +kernel
theorem dX8_wornKeys_35 : decode cX8_wornKeys 35 = .ok (.ishl, 1) := by decide +kernel
theorem dX8_wornKeys_36 : decode cX8_wornKeys 36 = .ok (.goto 4, 3) := by decide +kernel
theorem dX8_wornKeys_39 : decode cX8_wornKeys 39 = .ok (.iconst 0, 1) := by decide +kernel
theorem dX8_wornKeys_40 : decode cX8_wornKeys 40 = .ok (.ior, 1) := by decide +kernel
theorem dX8_wornKeys_41 : decode cX8_wornKeys 41 = .ok (.istore_n 1, 1) := by decide +kernel
theorem dX8_wornKeys_42 : decode cX8_wornKeys 42 = .ok (.iinc 2 1, 3) := by decide +kernel
theorem dX8_wornKeys_45 : decode cX8_wornKeys 45 = .ok (.goto (-41), 3) := by decide +kernel
theorem dX8_wornKeys_48 : decode cX8_wornKeys 48 = .ok (.iload_n 1, 1) := by decide +kernel
theorem dX8_wornKeys_49 : decode cX8_wornKeys 49 = .ok (.ireturn, 1) := by decide +kernel
theorem dX8_count_0 : decode cX8_count 0 = .ok (.iload_n 1, 1) := by decide +kernel
theorem dX8_count_1 : decode cX8_count 1 = .ok (.tableswitch 132 0 11 #[63, 70, 75, 82, 87, 94, 99, 104, 111, 116, 122, 127], 63) := by decide +kernel
theorem dX8_count_64 : decode cX8_count 64 = .ok (.aload_n 0, 1) := by decide +kernel
theorem dX8_count_65 : decode cX8_count 65 = .ok (.getfield 7, 3) := by decide +kernel
theorem dX8_count_68 : decode cX8_count 68 = .ok (.iconst 1, 1) := by decide +kernel
theorem dX8_count_69 : decode cX8_count 69 = .ok (.iaload, 1) := by decide +kernel
theorem dX8_count_70 : decode cX8_count 70 = .ok (.ireturn, 1) := by decide +kernel
theorem dX8_count_71 : decode cX8_count 71 = .ok (.aload_n 0, 1) := by decide +kernel
theorem dX8_count_72 : decode cX8_count 72 = .ok (.invokevirtual 189, 3) := by decide +kernel
theorem dX8_count_75 : decode cX8_count 75 = .ok (.ireturn, 1) := by decide +kernel
theorem dX8_count_76 : decode cX8_count 76 = .ok (.aload_n 0, 1) := by decide +kernel
theorem dX8_count_77 : decode cX8_count 77 = .ok (.getfield 7, 3) := by decide +kernel
theorem dX8_count_80 : decode cX8_count 80 = .ok (.iconst 2, 1) := by decide +kernel
theorem dX8_count_81 : decode cX8_count 81 = .ok (.iaload, 1) := by decide +kernel
theorem dX8_count_82 : decode cX8_count 82 = .ok (.ireturn, 1) := by decide +kernel
theorem dX8_count_83 : decode cX8_count 83 = .ok (.aload_n 0, 1) := by decide +kernel
theorem dX8_count_84 : decode cX8_count 84 = .ok (.invokevirtual 192, 3) := by decide +kernel
theorem dX8_count_87 : decode cX8_count 87 = .ok (.ireturn, 1) := by decide +kernel
theorem dX8_count_88 : decode cX8_count 88 = .ok (.aload_n 0, 1) := by decide +kernel
theorem dX8_count_89 : decode cX8_count 89 = .ok (.getfield 7, 3) := by decide +kernel
theorem dX8_count_92 : decode cX8_count 92 = .ok (.iconst 3, 1) := by decide +kernel
theorem dX8_count_93 : decode cX8_count 93 = .ok (.iaload, 1) := by decide +kernel
theorem dX8_count_94 : decode cX8_count 94 = .ok (.ireturn, 1) := by decide +kernel
theorem dX8_count_95 : decode cX8_count 95 = .ok (.aload_n 0, 1) := by decide +kernel
theorem dX8_count_96 : decode cX8_count 96 = .ok (.invokevirtual 195, 3) := by decide +kernel
theorem dX8_count_99 : decode cX8_count 99 = .ok (.ireturn, 1) := by decide +kernel
theorem dX8_count_100 : decode cX8_count 100 = .ok (.aload_n 0, 1) := by decide +kernel
theorem dX8_count_101 : decode cX8_count 101 = .ok (.invokevirtual 198, 3) := by decide +kernel
theorem dX8_count_104 : decode cX8_count 104 = .ok (.ireturn, 1) := by decide +kernel
theorem dX8_count_105 : decode cX8_count 105 = .ok (.aload_n 0, 1) := by decide +kernel
theorem dX8_count_106 : decode cX8_count 106 = .ok (.getfield 7, 3) := by decide +kernel
theorem dX8_count_109 : decode cX8_count 109 = .ok (.iconst 0, 1) := by decide +kernel
theorem dX8_count_110 : decode cX8_count 110 = .ok (.iaload, 1) := by decide +kernel
theorem dX8_count_111 : decode cX8_count 111 = .ok (.ireturn, 1) := by decide +kernel
theorem dX8_count_112 : decode cX8_count 112 = .ok (.aload_n 0, 1) := by decide +kernel
theorem dX8_count_113 : decode cX8_count 113 = .ok (.invokevirtual 201, 3) := by decide +kernel
theorem dX8_count_116 : decode cX8_count 116 = .ok (.ireturn, 1) := by decide +kernel
theorem dX8_count_117 : decode cX8_count 117 = .ok (.aload_n 0, 1) := by decide +kernel
theorem dX8_count_118 : decode cX8_count 118 = .ok (.iconst 0, 1) := by decide +kernel
theorem dX8_count_119 : decode cX8_count 119 = .ok (.invokevirtual 186, 3) := by decide +kernel
theorem dX8_count_122 : decode cX8_count 122 = .ok (.ireturn, 1) := by decide +kernel
theorem dX8_count_123 : decode cX8_count 123 = .ok (.aload_n 0, 1) := by decide +kernel
theorem dX8_count_124 : decode cX8_count 124 = .ok (.getfield 204, 3) := by decide +kernel
theorem dX8_count_127 : decode cX8_count 127 = .ok (.ireturn, 1) := by decide +kernel
theorem dX8_count_128 : decode cX8_count 128 = .ok (.aload_n 0, 1) := by decide +kernel
theorem dX8_count_129 : decode cX8_count 129 = .ok (.getfield 28, 3) := by decide +kernel
theorem dX8_count_132 : decode cX8_count 132 = .ok (.ireturn, 1) := by decide +kernel
theorem dX8_count_133 : decode cX8_count 133 = .ok (.bipush (-2), 2) := by decide +kernel
theorem dX8_count_135 : decode cX8_count 135 = .ok (.ireturn, 1) := by decide +kernel
theorem dX8_canOpen_0 : decode cX8_canOpen 0 = .ok (.aload_n 0, 1) := by decide +kernel
theorem dX8_canOpen_1 : decode cX8_canOpen 1 = .ok (.iload_n 1, 1) := by decide +kernel
theorem dX8_canOpen_2 : decode cX8_canOpen 2 = .ok (.invokevirtual 48, 3) := by decide +kernel
theorem dX8_canOpen_5 : decode cX8_canOpen 5 = .ok (.ifCond .eq 13, 3) := by decide +kernel
theorem dX8_canOpen_8 : decode cX8_canOpen 8 = .ok (.iload_n 2, 1) := by decide +kernel
theorem dX8_canOpen_9 : decode cX8_canOpen 9 = .ok (.iconst 0, 1) := by decide +kernel
theorem dX8_canOpen_10 : decode cX8_canOpen 10 = .ok (.bipush 7, 2) := by decide +kernel
theorem dX8_canOpen_12 : decode cX8_canOpen 12 = .ok (.invokestatic 36, 3) := by decide +kernel
theorem dX8_canOpen_15 : decode cX8_canOpen 15 = .ok (.ifCond .ne 18, 3) := by decide +kernel
theorem dX8_canOpen_18 : decode cX8_canOpen 18 = .ok (.aload_n 0, 1) := by decide +kernel
theorem dX8_canOpen_19 : decode cX8_canOpen 19 = .ok (.iload_n 1, 1) := by decide +kernel
theorem dX8_canOpen_20 : decode cX8_canOpen 20 = .ok (.invokevirtual 48, 3) := by decide +kernel
theorem dX8_canOpen_23 : decode cX8_canOpen 23 = .ok (.ifCond .eq 8, 3) := by decide +kernel
theorem dX8_canOpen_26 : decode cX8_canOpen 26 = .ok (.bipush (-2), 2) := by decide +kernel
theorem dX8_canOpen_28 : decode cX8_canOpen 28 = .ok (.goto 4, 3) := by decide +kernel
theorem dX8_canOpen_31 : decode cX8_canOpen 31 = .ok (.iconst (-1), 1) := by decide +kernel
theorem dX8_canOpen_32 : decode cX8_canOpen 32 = .ok (.ireturn, 1) := by decide +kernel
theorem dX8_canOpen_33 : decode cX8_canOpen 33 = .ok (.aload_n 0, 1) := by decide +kernel
theorem dX8_canOpen_34 : decode cX8_canOpen 34 = .ok (.iload_n 2, 1) := by decide +kernel
theorem dX8_canOpen_35 : decode cX8_canOpen 35 = .ok (.invokevirtual 186, 3) := by decide +kernel
theorem dX8_canOpen_38 : decode cX8_canOpen 38 = .ok (.iload_n 1, 1) := by decide +kernel
theorem dX8_canOpen_39 : decode cX8_canOpen 39 = .ok (.ishr, 1) := by decide +kernel
theorem dX8_canOpen_40 : decode cX8_canOpen 40 = .ok (.iconst 1, 1) := by decide +kernel
theorem dX8_canOpen_41 : decode cX8_canOpen 41 = .ok (.iand, 1) := by decide +kernel
theorem dX8_canOpen_42 : decode cX8_canOpen 42 = .ok (.ireturn, 1) := by decide +kernel
theorem dX8_canHave_0 : decode cX8_canHave 0 = .ok (.aload_n 0, 1) := by decide +kernel
theorem dX8_canHave_1 : decode cX8_canHave 1 = .ok (.iload_n 1, 1) := by decide +kernel
theorem dX8_canHave_2 : decode cX8_canHave 2 = .ok (.invokevirtual 40, 3) := by decide +kernel
theorem dX8_canHave_5 : decode cX8_canHave 5 = .ok (.ifCond .eq 17, 3) := by decide +kernel
theorem dX8_canHave_8 : decode cX8_canHave 8 = .ok (.iload_n 2, 1) := by decide +kernel
theorem dX8_canHave_9 : decode cX8_canHave 9 = .ok (.ifCond .lt 13, 3) := by decide +kernel
theorem dX8_canHave_12 : decode cX8_canHave 12 = .ok (.iload_n 3, 1) := by decide +kernel
theorem dX8_canHave_13 : decode cX8_canHave 13 = .ok (.iconst 0, 1) := by decide +kernel
theorem dX8_canHave_14 : decode cX8_canHave 14 = .ok (.bipush 7, 2) := by decide +kernel
theorem dX8_canHave_16 : decode cX8_canHave 16 = .ok (.invokestatic 36, 3) := by decide +kernel
theorem dX8_canHave_19 : decode cX8_canHave 19 = .ok (.ifCond .ne 18, 3) := by decide +kernel
theorem dX8_canHave_22 : decode cX8_canHave 22 = .ok (.aload_n 0, 1) := by decide +kernel
theorem dX8_canHave_23 : decode cX8_canHave 23 = .ok (.iload_n 1, 1) := by decide +kernel
theorem dX8_canHave_24 : decode cX8_canHave 24 = .ok (.invokevirtual 40, 3) := by decide +kernel
theorem dX8_canHave_27 : decode cX8_canHave 27 = .ok (.ifCond .eq 8, 3) := by decide +kernel
theorem dX8_canHave_30 : decode cX8_canHave 30 = .ok (.bipush (-2), 2) := by decide +kernel
theorem dX8_canHave_32 : decode cX8_canHave 32 = .ok (.goto 4, 3) := by decide +kernel
theorem dX8_canHave_35 : decode cX8_canHave 35 = .ok (.iconst (-1), 1) := by decide +kernel
theorem dX8_canHave_36 : decode cX8_canHave 36 = .ok (.ireturn, 1) := by decide +kernel
theorem dX8_canHave_37 : decode cX8_canHave 37 = .ok (.aload_n 0, 1) := by decide +kernel
theorem dX8_canHave_38 : decode cX8_canHave 38 = .ok (.iload_n 3, 1) := by decide +kernel
theorem dX8_canHave_39 : decode cX8_canHave 39 = .ok (.bipush (-6), 2) := by decide +kernel
theorem dX8_canHave_41 : decode cX8_canHave 41 = .ok (.iconst 0, 1) := by decide +kernel
theorem dX8_canHave_42 : decode cX8_canHave 42 = .ok (.invokevirtual 95, 3) := by decide +kernel
theorem dX8_canHave_45 : decode cX8_canHave 45 = .ok (.aload_n 0, 1) := by decide +kernel
theorem dX8_canHave_46 : decode cX8_canHave 46 = .ok (.iload_n 1, 1) := by decide +kernel
theorem dX8_canHave_47 : decode cX8_canHave 47 = .ok (.iload_n 2, 1) := by decide +kernel
theorem dX8_canHave_48 : decode cX8_canHave 48 = .ok (.bipush (-6), 2) := by decide +kernel
theorem dX8_canHave_50 : decode cX8_canHave 50 = .ok (.iconst 0, 1) := by decide +kernel
theorem dX8_canHave_51 : decode cX8_canHave 51 = .ok (.invokevirtual 91, 3) := by decide +kernel
theorem dX8_canHave_54 : decode cX8_canHave 54 = .ok (.ifCond .eq 7, 3) := by decide +kernel
theorem dX8_canHave_57 : decode cX8_canHave 57 = .ok (.iconst 1, 1) := by decide +kernel
theorem dX8_canHave_58 : decode cX8_canHave 58 = .ok (.goto 4, 3) := by decide +kernel
theorem dX8_canHave_61 : decode cX8_canHave 61 = .ok (.iconst 0, 1) := by decide +kernel
theorem dX8_canHave_62 : decode cX8_canHave 62 = .ok (.ireturn, 1) := by decide +kernel
theorem dX8_houseWrap_0 : decode cX8_houseWrap 0 = .ok (.bipush (-6), 2) := by decide +kernel
theorem dX8_houseWrap_2 : decode cX8_houseWrap 2 = .ok (.istore_n 3, 1) := by decide +kernel
theorem dX8_houseWrap_3 : decode cX8_houseWrap 3 = .ok (.iconst 0, 1) := by decide +kernel
theorem dX8_houseWrap_4 : decode cX8_houseWrap 4 = .ok (.istore 4, 2) := by decide +kernel
theorem dX8_houseWrap_6 : decode cX8_houseWrap 6 = .ok (.iload 4, 2) := by decide +kernel
theorem dX8_houseWrap_8 : decode cX8_houseWrap 8 = .ok (.aload_n 0, 1) := by decide +kernel
theorem dX8_houseWrap_9 : decode cX8_houseWrap 9 = .ok (.getfield 7, 3) := by decide +kernel
theorem dX8_houseWrap_12 : decode cX8_houseWrap 12 = .ok (.iconst 3, 1) := by decide +kernel
theorem dX8_houseWrap_13 : decode cX8_houseWrap 13 = .ok (.iaload, 1) := by decide +kernel
theorem dX8_houseWrap_14 : decode cX8_houseWrap 14 = .ok (.if_icmp .ge 49, 3) := by decide +kernel
theorem dX8_houseWrap_17 : decode cX8_houseWrap 17 = .ok (.aload_n 0, 1) := by decide +kernel
theorem dX8_houseWrap_18 : decode cX8_houseWrap 18 = .ok (.iload 4, 2) := by decide +kernel
theorem dX8_houseWrap_20 : decode cX8_houseWrap 20 = .ok (.iconst 4, 1) := by decide +kernel
theorem dX8_houseWrap_21 : decode cX8_houseWrap 21 = .ok (.invokevirtual 81, 3) := by decide +kernel
theorem dX8_houseWrap_24 : decode cX8_houseWrap 24 = .ok (.iconst 1, 1) := by decide +kernel
theorem dX8_houseWrap_25 : decode cX8_houseWrap 25 = .ok (.if_icmp .ne 30, 3) := by decide +kernel
theorem dX8_houseWrap_28 : decode cX8_houseWrap 28 = .ok (.aload_n 0, 1) := by decide +kernel
theorem dX8_houseWrap_29 : decode cX8_houseWrap 29 = .ok (.iload 4, 2) := by decide +kernel
theorem dX8_houseWrap_31 : decode cX8_houseWrap 31 = .ok (.iconst 0, 1) := by decide +kernel
theorem dX8_houseWrap_32 : decode cX8_houseWrap 32 = .ok (.invokevirtual 81, 3) := by decide +kernel
theorem dX8_houseWrap_35 : decode cX8_houseWrap 35 = .ok (.iload_n 1, 1) := by decide +kernel
theorem dX8_houseWrap_36 : decode cX8_houseWrap 36 = .ok (.if_icmp .ne 19, 3) := by decide +kernel
theorem dX8_houseWrap_39 : decode cX8_houseWrap 39 = .ok (.aload_n 0, 1) := by decide +kernel
theorem dX8_houseWrap_40 : decode cX8_houseWrap 40 = .ok (.iload 4, 2) := by decide +kernel
theorem dX8_houseWrap_42 : decode cX8_houseWrap 42 = .ok (.iconst 1, 1) := by decide +kernel
theorem dX8_houseWrap_43 : decode cX8_houseWrap 43 = .ok (.invokevirtual 81, 3) := by decide +kernel
theorem dX8_houseWrap_46 : decode cX8_houseWrap 46 = .ok (.iload_n 2, 1) := by decide +kernel
theorem dX8_houseWrap_47 : decode cX8_houseWrap 47 = .ok (.if_icmp .ne 8, 3) := by decide +kernel
theorem dX8_houseWrap_50 : decode cX8_houseWrap 50 = .ok (.iload 4, 2) := by decide +kernel
theorem dX8_houseWrap_52 : decode cX8_houseWrap 52 = .ok (.goto 4, 3) := by decide +kernel
theorem dX8_houseWrap_55 : decode cX8_houseWrap 55 = .ok (.iload_n 3, 1) := by decide +kernel
theorem dX8_houseWrap_56 : decode cX8_houseWrap 56 = .ok (.istore_n 3, 1) := by decide +kernel
theorem dX8_houseWrap_57 : decode cX8_houseWrap 57 = .ok (.iinc 4 1, 3) := by decide +kernel
theorem dX8_houseWrap_60 : decode cX8_houseWrap 60 = .ok (.goto (-54), 3) := by decide +kernel
theorem dX8_houseWrap_63 : decode cX8_houseWrap 63 = .ok (.iload_n 3, 1) := by decide +kernel
theorem dX8_houseWrap_64 : decode cX8_houseWrap 64 = .ok (.ireturn, 1) := by decide +kernel
theorem dX8_way_0 : decode cX8_way 0 = .ok (.aload_n 0, 1) := by decide +kernel
theorem dX8_way_1 : decode cX8_way 1 = .ok (.iload_n 1, 1) := by decide +kernel
theorem dX8_way_2 : decode cX8_way 2 = .ok (.invokevirtual 177, 3) := by decide +kernel
theorem dX8_way_5 : decode cX8_way 5 = .ok (.ifCond .eq 7, 3) := by decide +kernel
theorem dX8_way_8 : decode cX8_way 8 = .ok (.iload_n 2, 1) := by decide +kernel
theorem dX8_way_9 : decode cX8_way 9 = .ok (.ifCond .ge 18, 3) := by decide +kernel
theorem dX8_way_12 : decode cX8_way 12 = .ok (.aload_n 0, 1) := by decide +kernel
theorem dX8_way_13 : decode cX8_way 13 = .ok (.iload_n 1, 1) := by decide +kernel
theorem dX8_way_14 : decode cX8_way 14 = .ok (.invokevirtual 177, 3) := by decide +kernel
theorem dX8_way_17 : decode cX8_way 17 = .ok (.ifCond .eq 8, 3) := by decide +kernel
theorem dX8_way_20 : decode cX8_way 20 = .ok (.bipush (-2), 2) := by decide +kernel
theorem dX8_way_22 : decode cX8_way 22 = .ok (.goto 4, 3) := by decide +kernel
theorem dX8_way_25 : decode cX8_way 25 = .ok (.iconst (-1), 1) := by decide +kernel
theorem dX8_way_26 : decode cX8_way 26 = .ok (.ireturn, 1) := by decide +kernel
theorem dX8_way_27 : decode cX8_way 27 = .ok (.aload_n 0, 1) := by decide +kernel
theorem dX8_way_28 : decode cX8_way 28 = .ok (.iload_n 1, 1) := by decide +kernel
theorem dX8_way_29 : decode cX8_way 29 = .ok (.iconst 0, 1) := by decide +kernel
theorem dX8_way_30 : decode cX8_way 30 = .ok (.invokevirtual 51, 3) := by decide +kernel
theorem dX8_way_33 : decode cX8_way 33 = .ok (.istore_n 3, 1) := by decide +kernel
theorem dX8_way_34 : decode cX8_way 34 = .ok (.aload_n 0, 1) := by decide +kernel
theorem dX8_way_35 : decode cX8_way 35 = .ok (.iload_n 3, 1) := by decide +kernel
theorem dX8_way_36 : decode cX8_way 36 = .ok (.invokevirtual 156, 3) := by decide +kernel
theorem dX8_way_39 : decode cX8_way 39 = .ok (.istore 4, 2) := by decide +kernel
theorem dX8_way_41 : decode cX8_way 41 = .ok (.iload_n 2, 1) := by decide +kernel
theorem dX8_way_42 : decode cX8_way 42 = .ok (.iload 4, 2) := by decide +kernel
theorem dX8_way_44 : decode cX8_way 44 = .ok (.if_icmp .le 6, 3) := by decide +kernel
theorem dX8_way_47 : decode cX8_way 47 = .ok (.bipush (-6), 2) := by decide +kernel
theorem dX8_way_49 : decode cX8_way 49 = .ok (.ireturn, 1) := by decide +kernel
theorem dX8_way_50 : decode cX8_way 50 = .ok (.iload_n 2, 1) := by decide +kernel
theorem dX8_way_51 : decode cX8_way 51 = .ok (.iload 4, 2) := by decide +kernel
theorem dX8_way_53 : decode cX8_way 53 = .ok (.if_icmp .ne 8, 3) := by decide +kernel
theorem dX8_way_56 : decode cX8_way 56 = .ok (.bipush (-6), 2) := by decide +kernel
theorem dX8_way_58 : decode cX8_way 58 = .ok (.goto 14, 3) := by decide +kernel
theorem dX8_way_61 : decode cX8_way 61 = .ok (.aload_n 0, 1) := by decide +kernel
theorem dX8_way_62 : decode cX8_way 62 = .ok (.iload_n 3, 1) := by decide +kernel
theorem dX8_way_63 : decode cX8_way 63 = .ok (.iload 4, 2) := by decide +kernel
theorem dX8_way_65 : decode cX8_way 65 = .ok (.iconst 1, 1) := by decide +kernel
theorem dX8_way_66 : decode cX8_way 66 = .ok (.isub, 1) := by decide +kernel
theorem dX8_way_67 : decode cX8_way 67 = .ok (.iload_n 2, 1) := by decide +kernel
theorem dX8_way_68 : decode cX8_way 68 = .ok (.isub, 1) := by decide +kernel
theorem dX8_way_69 : decode cX8_way 69 = .ok (.invokevirtual 159, 3) := by decide +kernel
theorem dX8_way_72 : decode cX8_way 72 = .ok (.istore 5, 2) := by decide +kernel
theorem dX8_way_74 : decode cX8_way 74 = .ok (.aload_n 0, 1) := by decide +kernel
theorem dX8_way_75 : decode cX8_way 75 = .ok (.iload 5, 2) := by decide +kernel
theorem dX8_way_77 : decode cX8_way 77 = .ok (.iload_n 2, 1) := by decide +kernel
theorem dX8_way_78 : decode cX8_way 78 = .ok (.iload 4, 2) := by decide +kernel
theorem dX8_way_80 : decode cX8_way 80 = .ok (.if_icmp .ne 7, 3) := by decide +kernel
theorem dX8_way_83 : decode cX8_way 83 = .ok (.iload_n 1, 1) := by decide +kernel
theorem dX8_way_84 : decode cX8_way 84 = .ok (.goto 10, 3) := by decide +kernel
theorem dX8_way_87 : decode cX8_way 87 = .ok (.aload_n 0, 1) := by decide +kernel
theorem dX8_way_88 : decode cX8_way 88 = .ok (.iload 5, 2) := by decide +kernel
theorem dX8_way_90 : decode cX8_way 90 = .ok (.iconst 2, 1) := by decide +kernel
theorem dX8_way_91 : decode cX8_way 91 = .ok (.invokevirtual 44, 3) := by decide +kernel
theorem dX8_way_94 : decode cX8_way 94 = .ok (.invokevirtual 207, 3) := by decide +kernel
theorem dX8_way_97 : decode cX8_way 97 = .ok (.ireturn, 1) := by decide +kernel
theorem dX8_leaks_0 : decode cX8_leaks 0 = .ok (.aload_n 0, 1) := by decide +kernel
theorem dX8_leaks_1 : decode cX8_leaks 1 = .ok (.iload_n 1, 1) := by decide +kernel
theorem dX8_leaks_2 : decode cX8_leaks 2 = .ok (.invokevirtual 40, 3) := by decide +kernel
theorem dX8_leaks_5 : decode cX8_leaks 5 = .ok (.ifCond .eq 11, 3) := by decide +kernel
theorem dX8_leaks_8 : decode cX8_leaks 8 = .ok (.aload_n 0, 1) := by decide +kernel
theorem dX8_leaks_9 : decode cX8_leaks 9 = .ok (.iload_n 1, 1) := by decide +kernel
theorem dX8_leaks_10 : decode cX8_leaks 10 = .ok (.invokevirtual 84, 3) := by decide +kernel
theorem dX8_leaks_13 : decode cX8_leaks 13 = .ok (.ifCond .ne 5, 3) := by decide +kernel
theorem dX8_leaks_16 : decode cX8_leaks 16 = .ok (.iconst (-1), 1) := by decide +kernel
theorem dX8_leaks_17 : decode cX8_leaks 17 = .ok (.ireturn, 1) := by decide +kernel
theorem dX8_leaks_18 : decode cX8_leaks 18 = .ok (.iload_n 2, 1) := by decide +kernel
theorem dX8_leaks_19 : decode cX8_leaks 19 = .ok (.ifCond .lt 13, 3) := by decide +kernel
theorem dX8_leaks_22 : decode cX8_leaks 22 = .ok (.iload_n 3, 1) := by decide +kernel
theorem dX8_leaks_23 : decode cX8_leaks 23 = .ok (.iconst 0, 1) := by decide +kernel
theorem dX8_leaks_24 : decode cX8_leaks 24 = .ok (.bipush 7, 2) := by decide +kernel
theorem dX8_leaks_26 : decode cX8_leaks 26 = .ok (.invokestatic 36, 3) := by decide +kernel
theorem dX8_leaks_29 : decode cX8_leaks 29 = .ok (.ifCond .ne 6, 3) := by decide +kernel
theorem dX8_leaks_32 : decode cX8_leaks 32 = .ok (.bipush (-2), 2) := by decide +kernel
theorem dX8_leaks_34 : decode cX8_leaks 34 = .ok (.ireturn, 1) := by decide +kernel
theorem dX8_leaks_35 : decode cX8_leaks 35 = .ok (.aload_n 0, 1) := by decide +kernel
theorem dX8_leaks_36 : decode cX8_leaks 36 = .ok (.iload_n 3, 1) := by decide +kernel
theorem dX8_leaks_37 : decode cX8_leaks 37 = .ok (.iload_n 1, 1) := by decide +kernel
theorem dX8_leaks_38 : decode cX8_leaks 38 = .ok (.iload_n 2, 1) := by decide +kernel
theorem dX8_leaks_39 : decode cX8_leaks 39 = .ok (.invokevirtual 95, 3) := by decide +kernel
theorem dX8_leaks_42 : decode cX8_leaks 42 = .ok (.aload_n 0, 1) := by decide +kernel
theorem dX8_leaks_43 : decode cX8_leaks 43 = .ok (.invokevirtual 98, 3) := by decide +kernel
theorem dX8_leaks_46 : decode cX8_leaks 46 = .ok (.ireturn, 1) := by decide +kernel
theorem dX8_lostBy_0 : decode cX8_lostBy 0 = .ok (.aload_n 0, 1) := by decide +kernel
theorem dX8_lostBy_1 : decode cX8_lostBy 1 = .ok (.iload_n 1, 1) := by decide +kernel
theorem dX8_lostBy_2 : decode cX8_lostBy 2 = .ok (.invokevirtual 105, 3) := by decide +kernel
theorem dX8_lostBy_5 : decode cX8_lostBy 5 = .ok (.ifCond .ne 5, 3) := by decide +kernel
theorem dX8_lostBy_8 : decode cX8_lostBy 8 = .ok (.iconst (-1), 1) := by decide +kernel
theorem dX8_lostBy_9 : decode cX8_lostBy 9 = .ok (.ireturn, 1) := by decide +kernel
theorem dX8_lostBy_10 : decode cX8_lostBy 10 = .ok (.iconst 0, 1) := by decide +kernel
theorem dX8_lostBy_11 : decode cX8_lostBy 11 = .ok (.istore_n 2, 1) := by decide +kernel
theorem dX8_lostBy_12 : decode cX8_lostBy 12 = .ok (.iconst 0, 1) := by decide +kernel
theorem dX8_lostBy_13 : decode cX8_lostBy 13 = .ok (.istore_n 3, 1) := by decide +kernel
theorem dX8_lostBy_14 : decode cX8_lostBy 14 = .ok (.iload_n 3, 1) := by decide +kernel
theorem dX8_lostBy_15 : decode cX8_lostBy 15 = .ok (.aload_n 0, 1) := by decide +kernel
theorem dX8_lostBy_16 : decode cX8_lostBy 16 = .ok (.getfield 7, 3) := by decide +kernel
theorem dX8_lostBy_19 : decode cX8_lostBy 19 = .ok (.iconst 2, 1) := by decide +kernel
theorem dX8_lostBy_20 : decode cX8_lostBy 20 = .ok (.iaload, 1) := by decide +kernel
theorem dX8_lostBy_21 : decode cX8_lostBy 21 = .ok (.if_icmp .ge 43, 3) := by decide +kernel
theorem dX8_lostBy_24 : decode cX8_lostBy 24 = .ok (.iload_n 2, 1) := by decide +kernel
theorem dX8_lostBy_25 : decode cX8_lostBy 25 = .ok (.aload_n 0, 1) := by decide +kernel
theorem dX8_lostBy_26 : decode cX8_lostBy 26 = .ok (.iload_n 3, 1) := by decide +kernel
theorem dX8_lostBy_27 : decode cX8_lostBy 27 = .ok (.iconst 1, 1) := by decide +kernel
theorem dX8_lostBy_28 : decode cX8_lostBy 28 = .ok (.invokevirtual 51, 3) := by decide +kernel
theorem dX8_lostBy_31 : decode cX8_lostBy 31 = .ok (.iconst 1, 1) := by decide +kernel
theorem dX8_lostBy_32 : decode cX8_lostBy 32 = .ok (.if_icmp .ne 23, 3) := by decide +kernel
theorem dX8_lostBy_35 : decode cX8_lostBy 35 = .ok (.aload_n 0, 1) := by decide +kernel
theorem dX8_lostBy_36 : decode cX8_lostBy 36 = .ok (.aload_n 0, 1) := by decide +kernel
theorem dX8_lostBy_37 : decode cX8_lostBy 37 = .ok (.iload_n 3, 1) := by decide +kernel
theorem dX8_lostBy_38 : decode cX8_lostBy 38 = .ok (.iconst 0, 1) := by decide +kernel
theorem dX8_lostBy_39 : decode cX8_lostBy 39 = .ok (.invokevirtual 51, 3) := by decide +kernel
theorem dX8_lostBy_42 : decode cX8_lostBy 42 = .ok (.iload_n 1, 1) := by decide +kernel
theorem dX8_lostBy_43 : decode cX8_lostBy 43 = .ok (.invokevirtual 165, 3) := by decide +kernel
theorem dX8_lostBy_46 : decode cX8_lostBy 46 = .ok (.ifCond .eq 9, 3) := by decide +kernel
theorem dX8_lostBy_49 : decode cX8_lostBy 49 = .ok (.iconst 1, 1) := by decide +kernel
theorem dX8_lostBy_50 : decode cX8_lostBy 50 = .ok (.iload_n 3, 1) := by decide +kernel
theorem dX8_lostBy_51 : decode cX8_lostBy 51 = .ok (.ishl, 1) := by decide +kernel
theorem dX8_lostBy_52 : decode cX8_lostBy 52 = .ok (.goto 4, 3) := by decide +kernel
theorem dX8_lostBy_55 : decode cX8_lostBy 55 = .ok (.iconst 0, 1) := by decide +kernel
theorem dX8_lostBy_56 : decode cX8_lostBy 56 = .ok (.ior, 1) := by decide +kernel
theorem dX8_lostBy_57 : decode cX8_lostBy 57 = .ok (.istore_n 2, 1) := by decide +kernel
theorem dX8_lostBy_58 : decode cX8_lostBy 58 = .ok (.iinc 3 1, 3) := by decide +kernel
theorem dX8_lostBy_61 : decode cX8_lostBy 61 = .ok (.goto (-47), 3) := by decide +kernel
theorem dX8_lostBy_64 : decode cX8_lostBy 64 = .ok (.iload_n 2, 1) := by decide +kernel
theorem dX8_lostBy_65 : decode cX8_lostBy 65 = .ok (.ireturn, 1) := by decide +kernel
theorem dX8_throwingMakes_0 : decode cX8_throwingMakes 0 = .ok (.iload_n 1, 1) := by decide +kernel
theorem dX8_throwingMakes_1 : decode cX8_throwingMakes 1 = .ok (.iconst 0, 1) := by decide +kernel
theorem dX8_throwingMakes_2 : decode cX8_throwingMakes 2 = .ok (.iconst 1, 1) := by decide +kernel
theorem dX8_throwingMakes_3 : decode cX8_throwingMakes 3 = .ok (.invokestatic 36, 3) := by decide +kernel
theorem dX8_throwingMakes_6 : decode cX8_throwingMakes 6 = .ok (.ifCond .ne 6, 3) := by decide +kernel
theorem dX8_throwingMakes_9 : decode cX8_throwingMakes 9 = .ok (.bipush (-2), 2) := by decide +kernel
theorem dX8_throwingMakes_11 : decode cX8_throwingMakes 11 = .ok (.ireturn, 1) := by decide +kernel
theorem dX8_throwingMakes_12 : decode cX8_throwingMakes 12 = .ok (.iload_n 1, 1) := by decide +kernel
theorem dX8_throwingMakes_13 : decode cX8_throwingMakes 13 = .ok (.ifCond .ne 14, 3) := by decide +kernel
theorem dX8_throwingMakes_16 : decode cX8_throwingMakes 16 = .ok (.aload_n 0, 1) := by decide +kernel
theorem dX8_throwingMakes_17 : decode cX8_throwingMakes 17 = .ok (.iload_n 2, 1) := by decide +kernel
theorem dX8_throwingMakes_18 : decode cX8_throwingMakes 18 = .ok (.invokevirtual 105, 3) := by decide +kernel
theorem dX8_throwingMakes_21 : decode cX8_throwingMakes 21 = .ok (.ifCond .ne 16, 3) := by decide +kernel
theorem dX8_throwingMakes_24 : decode cX8_throwingMakes 24 = .ok (.goto 11, 3) := by decide +kernel
theorem dX8_throwingMakes_27 : decode cX8_throwingMakes 27 = .ok (.aload_n 0, 1) := by decide +kernel
theorem dX8_throwingMakes_28 : decode cX8_throwingMakes 28 = .ok (.iload_n 2, 1) := by decide +kernel
theorem dX8_throwingMakes_29 : decode cX8_throwingMakes 29 = .ok (.invokevirtual 177, 3) := by decide +kernel
theorem dX8_throwingMakes_32 : decode cX8_throwingMakes 32 = .ok (.ifCond .ne 5, 3) := by decide +kernel
theorem dX8_throwingMakes_35 : decode cX8_throwingMakes 35 = .ok (.iconst (-1), 1) := by decide +kernel
theorem dX8_throwingMakes_36 : decode cX8_throwingMakes 36 = .ok (.ireturn, 1) := by decide +kernel
theorem dX8_throwingMakes_37 : decode cX8_throwingMakes 37 = .ok (.aload_n 0, 1) := by decide +kernel
theorem dX8_throwingMakes_38 : decode cX8_throwingMakes 38 = .ok (.iload_n 1, 1) := by decide +kernel
theorem dX8_throwingMakes_39 : decode cX8_throwingMakes 39 = .ok (.ifCond .ne 12, 3) := by decide +kernel
theorem dX8_throwingMakes_42 : decode cX8_throwingMakes 42 = .ok (.aload_n 0, 1) := by decide +kernel
theorem dX8_throwingMakes_43 : decode cX8_throwingMakes 43 = .ok (.iload_n 2, 1) := by decide +kernel
theorem dX8_throwingMakes_44 : decode cX8_throwingMakes 44 = .ok (.iconst 0, 1) := by decide +kernel
theorem dX8_throwingMakes_45 : decode cX8_throwingMakes 45 = .ok (.invokevirtual 44, 3) := by decide +kernel
theorem dX8_throwingMakes_48 : decode cX8_throwingMakes 48 = .ok (.goto 9, 3) := by decide +kernel
theorem dX8_throwingMakes_51 : decode cX8_throwingMakes 51 = .ok (.aload_n 0, 1) := by decide +kernel
theorem dX8_throwingMakes_52 : decode cX8_throwingMakes 52 = .ok (.iload_n 2, 1) := by decide +kernel
theorem dX8_throwingMakes_53 : decode cX8_throwingMakes 53 = .ok (.iconst 0, 1) := by decide +kernel
theorem dX8_throwingMakes_54 : decode cX8_throwingMakes 54 = .ok (.invokevirtual 51, 3) := by decide +kernel
theorem dX8_throwingMakes_57 : decode cX8_throwingMakes 57 = .ok (.invokevirtual 153, 3) := by decide +kernel
theorem dX8_throwingMakes_60 : decode cX8_throwingMakes 60 = .ok (.ireturn, 1) := by decide +kernel
theorem dX8_leftOf_0 : decode cX8_leftOf 0 = .ok (.aload_n 0, 1) := by decide +kernel
theorem dX8_leftOf_1 : decode cX8_leftOf 1 = .ok (.getfield 7, 3) := by decide +kernel
theorem dX8_leftOf_4 : decode cX8_leftOf 4 = .ok (.iconst 0, 1) := by decide +kernel
theorem dX8_leftOf_5 : decode cX8_leftOf 5 = .ok (.iaload, 1) := by decide +kernel
theorem dX8_leftOf_6 : decode cX8_leftOf 6 = .ok (.aload_n 0, 1) := by decide +kernel
theorem dX8_leftOf_7 : decode cX8_leftOf 7 = .ok (.iload_n 1, 1) := by decide +kernel
theorem dX8_leftOf_8 : decode cX8_leftOf 8 = .ok (.iconst 3, 1) := by decide +kernel
theorem dX8_leftOf_9 : decode cX8_leftOf 9 = .ok (.invokevirtual 44, 3) := by decide +kernel
theorem dX8_leftOf_12 : decode cX8_leftOf 12 = .ok (.isub, 1) := by decide +kernel
theorem dX8_leftOf_13 : decode cX8_leftOf 13 = .ok (.istore_n 2, 1) := by decide +kernel
theorem dX8_leftOf_14 : decode cX8_leftOf 14 = .ok (.iload_n 2, 1) := by decide +kernel
theorem dX8_leftOf_15 : decode cX8_leftOf 15 = .ok (.ifCond .le 7, 3) := by decide +kernel
theorem dX8_leftOf_18 : decode cX8_leftOf 18 = .ok (.iload_n 2, 1) := by decide +kernel
theorem dX8_leftOf_19 : decode cX8_leftOf 19 = .ok (.goto 4, 3) := by decide +kernel
theorem dX8_leftOf_22 : decode cX8_leftOf 22 = .ok (.iconst 0, 1) := by decide +kernel
theorem dX8_leftOf_23 : decode cX8_leftOf 23 = .ok (.ireturn, 1) := by decide +kernel
theorem dX8_mostWorn_0 : decode cX8_mostWorn 0 = .ok (.iload_n 1, 1) := by decide +kernel
theorem dX8_mostWorn_1 : decode cX8_mostWorn 1 = .ok (.iconst 0, 1) := by decide +kernel
theorem dX8_mostWorn_2 : decode cX8_mostWorn 2 = .ok (.iconst 1, 1) := by decide +kernel
theorem dX8_mostWorn_3 : decode cX8_mostWorn 3 = .ok (.invokestatic 36, 3) := by decide +kernel
theorem dX8_mostWorn_6 : decode cX8_mostWorn 6 = .ok (.ifCond .ne 6, 3) := by decide +kernel
theorem dX8_mostWorn_9 : decode cX8_mostWorn 9 = .ok (.bipush (-2), 2) := by decide +kernel
theorem dX8_mostWorn_11 : decode cX8_mostWorn 11 = .ok (.ireturn, 1) := by decide +kernel
theorem dX8_mostWorn_12 : decode cX8_mostWorn 12 = .ok (.bipush (-6), 2) := by decide +kernel
theorem dX8_mostWorn_14 : decode cX8_mostWorn 14 = .ok (.istore_n 2, 1) := by decide +kernel
theorem dX8_mostWorn_15 : decode cX8_mostWorn 15 = .ok (.iconst 0, 1) := by decide +kernel
theorem dX8_mostWorn_16 : decode cX8_mostWorn 16 = .ok (.istore_n 3, 1) := by decide +kernel
theorem dX8_mostWorn_17 : decode cX8_mostWorn 17 = .ok (.iload_n 3, 1) := by decide +kernel
theorem dX8_mostWorn_18 : decode cX8_mostWorn 18 = .ok (.aload_n 0, 1) := by decide +kernel
theorem dX8_mostWorn_19 : decode cX8_mostWorn 19 = .ok (.getfield 7, 3) := by decide +kernel
theorem dX8_mostWorn_22 : decode cX8_mostWorn 22 = .ok (.iconst 1, 1) := by decide +kernel
theorem dX8_mostWorn_23 : decode cX8_mostWorn 23 = .ok (.iaload, 1) := by decide +kernel
theorem dX8_mostWorn_24 : decode cX8_mostWorn 24 = .ok (.if_icmp .ge 44, 3) := by decide +kernel
theorem dX8_mostWorn_27 : decode cX8_mostWorn 27 = .ok (.aload_n 0, 1) := by decide +kernel
theorem dX8_mostWorn_28 : decode cX8_mostWorn 28 = .ok (.iload_n 3, 1) := by decide +kernel
theorem dX8_mostWorn_29 : decode cX8_mostWorn 29 = .ok (.iconst 1, 1) := by decide +kernel
theorem dX8_mostWorn_30 : decode cX8_mostWorn 30 = .ok (.invokevirtual 44, 3) := by decide +kernel
theorem dX8_mostWorn_33 : decode cX8_mostWorn 33 = .ok (.iconst 1, 1) := by decide +kernel
theorem dX8_mostWorn_34 : decode cX8_mostWorn 34 = .ok (.if_icmp .ne 26, 3) := by decide +kernel
theorem dX8_mostWorn_37 : decode cX8_mostWorn 37 = .ok (.iload_n 2, 1) := by decide +kernel
theorem dX8_mostWorn_38 : decode cX8_mostWorn 38 = .ok (.bipush (-6), 2) := by decide +kernel
theorem dX8_mostWorn_40 : decode cX8_mostWorn 40 = .ok (.if_icmp .eq 16, 3) := by decide +kernel
theorem dX8_mostWorn_43 : decode cX8_mostWorn 43 = .ok (.aload_n 0, 1) := by decide +kernel
theorem dX8_mostWorn_44 : decode cX8_mostWorn 44 = .ok (.iload_n 3, 1) := by decide +kernel
theorem dX8_mostWorn_45 : decode cX8_mostWorn 45 = .ok (.invokevirtual 210, 3) := by decide +kernel
theorem dX8_mostWorn_48 : decode cX8_mostWorn 48 = .ok (.aload_n 0, 1) := by decide +kernel
theorem dX8_mostWorn_49 : decode cX8_mostWorn 49 = .ok (.iload_n 2, 1) := by decide +kernel
theorem dX8_mostWorn_50 : decode cX8_mostWorn 50 = .ok (.invokevirtual 210, 3) := by decide +kernel
theorem dX8_mostWorn_53 : decode cX8_mostWorn 53 = .ok (.if_icmp .ge 7, 3) := by decide +kernel
theorem dX8_mostWorn_56 : decode cX8_mostWorn 56 = .ok (.iload_n 3, 1) := by decide +kernel
theorem dX8_mostWorn_57 : decode cX8_mostWorn 57 = .ok (.goto 4, 3) := by decide +kernel
theorem dX8_mostWorn_60 : decode cX8_mostWorn 60 = .ok (.iload_n 2, 1) := by decide +kernel
theorem dX8_mostWorn_61 : decode cX8_mostWorn 61 = .ok (.istore_n 2, 1) := by decide +kernel
theorem dX8_mostWorn_62 : decode cX8_mostWorn 62 = .ok (.iinc 3 1, 3) := by decide +kernel
theorem dX8_mostWorn_65 : decode cX8_mostWorn 65 = .ok (.goto (-48), 3) := by decide +kernel
theorem dX8_mostWorn_68 : decode cX8_mostWorn 68 = .ok (.iload_n 2, 1) := by decide +kernel
theorem dX8_mostWorn_69 : decode cX8_mostWorn 69 = .ok (.bipush (-6), 2) := by decide +kernel
theorem dX8_mostWorn_71 : decode cX8_mostWorn 71 = .ok (.if_icmp .eq 7, 3) := by decide +kernel
theorem dX8_mostWorn_74 : decode cX8_mostWorn 74 = .ok (.iload_n 1, 1) := by decide +kernel
theorem dX8_mostWorn_75 : decode cX8_mostWorn 75 = .ok (.ifCond .ne 7, 3) := by decide +kernel
theorem dX8_mostWorn_78 : decode cX8_mostWorn 78 = .ok (.iload_n 2, 1) := by decide +kernel
theorem dX8_mostWorn_79 : decode cX8_mostWorn 79 = .ok (.goto 8, 3) := by decide +kernel
theorem dX8_mostWorn_82 : decode cX8_mostWorn 82 = .ok (.aload_n 0, 1) := by decide +kernel
theorem dX8_mostWorn_83 : decode cX8_mostWorn 83 = .ok (.iload_n 2, 1) := by decide +kernel
theorem dX8_mostWorn_84 : decode cX8_mostWorn 84 = .ok (.invokevirtual 210, 3) := by decide +kernel
theorem dX8_mostWorn_87 : decode cX8_mostWorn 87 = .ok (.ireturn, 1) := by decide +kernel
theorem dX8_put_0 : decode cX8_put 0 = .ok (.iconst 0, 1) := by decide +kernel
theorem dX8_put_1 : decode cX8_put 1 = .ok (.istore_n 3, 1) := by decide +kernel
theorem dX8_put_2 : decode cX8_put 2 = .ok (.lload_n 1, 1) := by decide +kernel
theorem dX8_put_3 : decode cX8_put 3 = .ok (.lstore 4, 2) := by decide +kernel
theorem dX8_put_5 : decode cX8_put 5 = .ok (.iconst 1, 1) := by decide +kernel
theorem dX8_put_6 : decode cX8_put 6 = .ok (.istore 6, 2) := by decide +kernel
theorem dX8_put_8 : decode cX8_put 8 = .ok (.iload_n 3, 1) := by decide +kernel
theorem dX8_put_9 : decode cX8_put 9 = .ok (.bipush 8, 2) := by decide +kernel
theorem dX8_put_11 : decode cX8_put 11 = .ok (.if_icmp .ge 56, 3) := by decide +kernel
theorem dX8_put_14 : decode cX8_put 14 = .ok (.lload 4, 2) := by decide +kernel
theorem dX8_put_16 : decode cX8_put 16 = .ok (.ldc2_w 213, 3) := by decide +kernel
theorem dX8_put_19 : decode cX8_put 19 = .ok (.land, 1) := by decide +kernel
theorem dX8_put_20 : decode cX8_put 20 = .ok (.lconst 0, 1) := by decide +kernel
theorem dX8_put_21 : decode cX8_put 21 = .ok (.lcmp, 1) := by decide +kernel
theorem dX8_put_22 : decode cX8_put 22 = .ok (.ifCond .eq 45, 3) := by decide +kernel
theorem dX8_put_25 : decode cX8_put 25 = .ok (.iload 6, 2) := by decide +kernel
theorem dX8_put_27 : decode cX8_put 27 = .ok (.ifCond .eq 24, 3) := by decide +kernel
theorem dX8_put_30 : decode cX8_put 30 = .ok (.lload 4, 2) := by decide +kernel
theorem dX8_put_32 : decode cX8_put 32 = .ok (.ldc2_w 213, 3) := by decide +kernel
theorem dX8_put_35 : decode cX8_put 35 = .ok (.land, 1) := by decide +kernel
theorem dX8_put_36 : decode cX8_put 36 = .ok (.l2i, 1) := by decide +kernel
theorem dX8_put_37 : decode cX8_put 37 = .ok (.bipush 33, 2) := by decide +kernel
theorem dX8_put_39 : decode cX8_put 39 = .ok (.bipush 126, 2) := by decide +kernel
theorem dX8_put_41 : decode cX8_put 41 = .ok (.invokestatic 36, 3) := by decide +kernel
theorem dX8_put_44 : decode cX8_put 44 = .ok (.ifCond .eq 7, 3) := by decide +kernel
theorem dX8_put_47 : decode cX8_put 47 = .ok (.iconst 1, 1) := by decide +kernel
theorem dX8_put_48 : decode cX8_put 48 = .ok (.goto 4, 3) := by decide +kernel
theorem dX8_put_51 : decode cX8_put 51 = .ok (.iconst 0, 1) := by decide +kernel
theorem dX8_put_52 : decode cX8_put 52 = .ok (.istore 6, 2) := by decide +kernel
theorem dX8_put_54 : decode cX8_put 54 = .ok (.lload 4, 2) := by decide +kernel
theorem dX8_put_56 : decode cX8_put 56 = .ok (.bipush 8, 2) := by decide +kernel
theorem dX8_put_58 : decode cX8_put 58 = .ok (.lushr, 1) := by decide +kernel
theorem dX8_put_59 : decode cX8_put 59 = .ok (.lstore 4, 2) := by decide +kernel
theorem dX8_put_61 : decode cX8_put 61 = .ok (.iinc 3 1, 3) := by decide +kernel
theorem dX8_put_64 : decode cX8_put 64 = .ok (.goto (-56), 3) := by decide +kernel
theorem dX8_put_67 : decode cX8_put 67 = .ok (.iload_n 3, 1) := by decide +kernel
theorem dX8_put_68 : decode cX8_put 68 = .ok (.ifCond .eq 15, 3) := by decide +kernel
theorem dX8_put_71 : decode cX8_put 71 = .ok (.iload 6, 2) := by decide +kernel
theorem dX8_put_73 : decode cX8_put 73 = .ok (.ifCond .eq 10, 3) := by decide +kernel
theorem dX8_put_76 : decode cX8_put 76 = .ok (.lload 4, 2) := by decide +kernel
theorem dX8_put_78 : decode cX8_put 78 = .ok (.lconst 0, 1) := by decide +kernel
theorem dX8_put_79 : decode cX8_put 79 = .ok (.lcmp, 1) := by decide +kernel
theorem dX8_put_80 : decode cX8_put 80 = .ok (.ifCond .eq 6, 3) := by decide +kernel
theorem dX8_put_83 : decode cX8_put 83 = .ok (.bipush (-2), 2) := by decide +kernel
theorem dX8_put_85 : decode cX8_put 85 = .ok (.ireturn, 1) := by decide +kernel
theorem dX8_put_86 : decode cX8_put 86 = .ok (.aload_n 0, 1) := by decide +kernel
theorem dX8_put_87 : decode cX8_put 87 = .ok (.getfield 204, 3) := by decide +kernel
theorem dX8_put_90 : decode cX8_put 90 = .ok (.iload_n 3, 1) := by decide +kernel
theorem dX8_put_91 : decode cX8_put 91 = .ok (.iadd, 1) := by decide +kernel
theorem dX8_put_92 : decode cX8_put 92 = .ok (.bipush 60, 2) := by decide +kernel
theorem dX8_put_94 : decode cX8_put 94 = .ok (.if_icmp .le 6, 3) := by decide +kernel
theorem dX8_put_97 : decode cX8_put 97 = .ok (.bipush (-4), 2) := by decide +kernel
theorem dX8_put_99 : decode cX8_put 99 = .ok (.ireturn, 1) := by decide +kernel
theorem dX8_put_100 : decode cX8_put 100 = .ok (.iload_n 3, 1) := by decide +kernel
theorem dX8_put_101 : decode cX8_put 101 = .ok (.iconst 1, 1) := by decide +kernel
theorem dX8_put_102 : decode cX8_put 102 = .ok (.isub, 1) := by decide +kernel
theorem dX8_put_103 : decode cX8_put 103 = .ok (.istore 7, 2) := by decide +kernel
theorem dX8_put_105 : decode cX8_put 105 = .ok (.iload 7, 2) := by decide +kernel
theorem dX8_put_107 : decode cX8_put 107 = .ok (.ifCond .lt 40, 3) := by decide +kernel
theorem dX8_put_110 : decode cX8_put 110 = .ok (.aload_n 0, 1) := by decide +kernel
theorem dX8_put_111 : decode cX8_put 111 = .ok (.getfield 22, 3) := by decide +kernel
theorem dX8_put_114 : decode cX8_put 114 = .ok (.aload_n 0, 1) := by decide +kernel
theorem dX8_put_115 : decode cX8_put 115 = .ok (.getfield 204, 3) := by decide +kernel
theorem dX8_put_118 : decode cX8_put 118 = .ok (.lload_n 1, 1) := by decide +kernel
theorem dX8_put_119 : decode cX8_put 119 = .ok (.bipush 8, 2) := by decide +kernel
theorem dX8_put_121 : decode cX8_put 121 = .ok (.iload 7, 2) := by decide +kernel
theorem dX8_put_123 : decode cX8_put 123 = .ok (.imul, 1) := by decide +kernel
theorem dX8_put_124 : decode cX8_put 124 = .ok (.lushr, 1) := by decide +kernel
theorem dX8_put_125 : decode cX8_put 125 = .ok (.ldc2_w 213, 3) := by decide +kernel
theorem dX8_put_128 : decode cX8_put 128 = .ok (.land, 1) := by decide +kernel
theorem dX8_put_129 : decode cX8_put 129 = .ok (.l2i, 1) := by decide +kernel
theorem dX8_put_130 : decode cX8_put 130 = .ok (.iastore, 1) := by decide +kernel
theorem dX8_put_131 : decode cX8_put 131 = .ok (.aload_n 0, 1) := by decide +kernel
theorem dX8_put_132 : decode cX8_put 132 = .ok (.dup, 1) := by decide +kernel
theorem dX8_put_133 : decode cX8_put 133 = .ok (.getfield 204, 3) := by decide +kernel
theorem dX8_put_136 : decode cX8_put 136 = .ok (.iconst 1, 1) := by decide +kernel
theorem dX8_put_137 : decode cX8_put 137 = .ok (.iadd, 1) := by decide +kernel
theorem dX8_put_138 : decode cX8_put 138 = .ok (.putfield 204, 3) := by decide +kernel
theorem dX8_put_141 : decode cX8_put 141 = .ok (.iinc 7 (-1), 3) := by decide +kernel
theorem dX8_put_144 : decode cX8_put 144 = .ok (.goto (-39), 3) := by decide +kernel
theorem dX8_put_147 : decode cX8_put 147 = .ok (.aload_n 0, 1) := by decide +kernel
theorem dX8_put_148 : decode cX8_put 148 = .ok (.getfield 204, 3) := by decide +kernel
theorem dX8_put_151 : decode cX8_put 151 = .ok (.ireturn, 1) := by decide +kernel
theorem dX8_wipe_0 : decode cX8_wipe 0 = .ok (.aload_n 0, 1) := by decide +kernel
theorem dX8_wipe_1 : decode cX8_wipe 1 = .ok (.getfield 204, 3) := by decide +kernel
theorem dX8_wipe_4 : decode cX8_wipe 4 = .ok (.istore_n 1, 1) := by decide +kernel
theorem dX8_wipe_5 : decode cX8_wipe 5 = .ok (.aload_n 0, 1) := by decide +kernel
theorem dX8_wipe_6 : decode cX8_wipe 6 = .ok (.iconst 0, 1) := by decide +kernel
theorem dX8_wipe_7 : decode cX8_wipe 7 = .ok (.putfield 204, 3) := by decide +kernel
theorem dX8_wipe_10 : decode cX8_wipe 10 = .ok (.iload_n 1, 1) := by decide +kernel
theorem dX8_wipe_11 : decode cX8_wipe 11 = .ok (.ireturn, 1) := by decide +kernel
theorem dX8_character_0 : decode cX8_character 0 = .ok (.iload_n 1, 1) := by decide +kernel
theorem dX8_character_1 : decode cX8_character 1 = .ok (.aload_n 0, 1) := by decide +kernel
theorem dX8_character_2 : decode cX8_character 2 = .ok (.getfield 204, 3) := by decide +kernel
theorem dX8_character_5 : decode cX8_character 5 = .ok (.if_icmp .ge 12, 3) := by decide +kernel
theorem dX8_character_8 : decode cX8_character 8 = .ok (.aload_n 0, 1) := by decide +kernel
theorem dX8_character_9 : decode cX8_character 9 = .ok (.getfield 22, 3) := by decide +kernel
theorem dX8_character_12 : decode cX8_character 12 = .ok (.iload_n 1, 1) := by decide +kernel
theorem dX8_character_13 : decode cX8_character 13 = .ok (.iaload, 1) := by decide +kernel
theorem dX8_character_14 : decode cX8_character 14 = .ok (.goto 4, 3) := by decide +kernel
theorem dX8_character_17 : decode cX8_character 17 = .ok (.iconst (-1), 1) := by decide +kernel
theorem dX8_character_18 : decode cX8_character 18 = .ok (.ireturn, 1) := by decide +kernel
theorem dX8_takes_0 : decode cX8_takes 0 = .ok (.aload_n 0, 1) := by decide +kernel
theorem dX8_takes_1 : decode cX8_takes 1 = .ok (.aload_n 0, 1) := by decide +kernel
theorem dX8_takes_2 : decode cX8_takes 2 = .ok (.getfield 215, 3) := by decide +kernel
theorem dX8_takes_5 : decode cX8_takes 5 = .ok (.invokevirtual 218, 3) := by decide +kernel
theorem dX8_takes_8 : decode cX8_takes 8 = .ok (.iload_n 1, 1) := by decide +kernel
theorem dX8_takes_9 : decode cX8_takes 9 = .ok (.if_icmp .ne 7, 3) := by decide +kernel
theorem dX8_takes_12 : decode cX8_takes 12 = .ok (.iconst 1, 1) := by decide +kernel
theorem dX8_takes_13 : decode cX8_takes 13 = .ok (.goto 4, 3) := by decide +kernel
theorem dX8_takes_16 : decode cX8_takes 16 = .ok (.iconst 0, 1) := by decide +kernel
theorem dX8_takes_17 : decode cX8_takes 17 = .ok (.istore_n 2, 1) := by decide +kernel
theorem dX8_takes_18 : decode cX8_takes 18 = .ok (.aload_n 0, 1) := by decide +kernel
theorem dX8_takes_19 : decode cX8_takes 19 = .ok (.dup, 1) := by decide +kernel
theorem dX8_takes_20 : decode cX8_takes 20 = .ok (.getfield 215, 3) := by decide +kernel
theorem dX8_takes_23 : decode cX8_takes 23 = .ok (.iload_n 2, 1) := by decide +kernel
theorem dX8_takes_24 : decode cX8_takes 24 = .ok (.ifCond .eq 7, 3) := by decide +kernel
theorem dX8_takes_27 : decode cX8_takes 27 = .ok (.iconst 1, 1) := by decide +kernel
theorem dX8_takes_28 : decode cX8_takes 28 = .ok (.goto 4, 3) := by decide +kernel
theorem dX8_takes_31 : decode cX8_takes 31 = .ok (.iconst 0, 1) := by decide +kernel
theorem dX8_takes_32 : decode cX8_takes 32 = .ok (.iadd, 1) := by decide +kernel
theorem dX8_takes_33 : decode cX8_takes 33 = .ok (.putfield 215, 3) := by decide +kernel
theorem dX8_takes_36 : decode cX8_takes 36 = .ok (.iload_n 2, 1) := by decide +kernel
theorem dX8_takes_37 : decode cX8_takes 37 = .ok (.ireturn, 1) := by decide +kernel
theorem dX8_takeNumber_0 : decode cX8_takeNumber 0 = .ok (.iconst (-1), 1) := by decide +kernel
theorem dX8_takeNumber_1 : decode cX8_takeNumber 1 = .ok (.istore_n 1, 1) := by decide +kernel
theorem dX8_takeNumber_2 : decode cX8_takeNumber 2 = .ok (.aload_n 0, 1) := by decide +kernel
theorem dX8_takeNumber_3 : decode cX8_takeNumber 3 = .ok (.aload_n 0, 1) := by decide +kernel
theorem dX8_takeNumber_4 : decode cX8_takeNumber 4 = .ok (.getfield 215, 3) := by decide +kernel
theorem dX8_takeNumber_7 : decode cX8_takeNumber 7 = .ok (.invokevirtual 218, 3) := by decide +kernel
theorem dX8_takeNumber_10 : decode cX8_takeNumber 10 = .ok (.bipush 48, 2) := by decide +kernel
theorem dX8_takeNumber_12 : decode cX8_takeNumber 12 = .ok (.bipush 57, 2) := by decide +kernel
theorem dX8_takeNumber_14 : decode cX8_takeNumber 14 = .ok (.invokestatic 36, 3) := by decide +kernel
theorem dX8_takeNumber_17 : decode cX8_takeNumber 17 = .ok (.istore_n 2, 1) := by decide +kernel
theorem dX8_takeNumber_18 : decode cX8_takeNumber 18 = .ok (.iload_n 2, 1) := by decide +kernel
theorem dX8_takeNumber_19 : decode cX8_takeNumber 19 = .ok (.ifCond .eq 90, 3) := by decide +kernel
theorem dX8_takeNumber_22 : decode cX8_takeNumber 22 = .ok (.iload_n 1, 1) := by decide +kernel
theorem dX8_takeNumber_23 : decode cX8_takeNumber 23 = .ok (.ifCond .ge 7, 3) := by decide +kernel
theorem dX8_takeNumber_26 : decode cX8_takeNumber 26 = .ok (.iconst 0, 1) := by decide +kernel
theorem dX8_takeNumber_27 : decode cX8_takeNumber 27 = .ok (.goto 7, 3) := by decide +kernel
theorem dX8_takeNumber_30 : decode cX8_takeNumber 30 = .ok (.bipush 10, 2) := by decide +kernel
theorem dX8_takeNumber_32 : decode cX8_takeNumber 32 = .ok (.iload_n 1, 1) := by decide +kernel
theorem dX8_takeNumber_33 : decode cX8_takeNumber 33 = .ok (.imul, 1) := by decide +kernel
theorem dX8_takeNumber_34 : decode cX8_takeNumber 34 = .ok (.aload_n 0, 1) := by decide +kernel
theorem dX8_takeNumber_35 : decode cX8_takeNumber 35 = .ok (.aload_n 0, 1) := by decide +kernel
theorem dX8_takeNumber_36 : decode cX8_takeNumber 36 = .ok (.getfield 215, 3) := by decide +kernel
theorem dX8_takeNumber_39 : decode cX8_takeNumber 39 = .ok (.invokevirtual 218, 3) := by decide +kernel
theorem dX8_takeNumber_42 : decode cX8_takeNumber 42 = .ok (.iadd, 1) := by decide +kernel
theorem dX8_takeNumber_43 : decode cX8_takeNumber 43 = .ok (.bipush 48, 2) := by decide +kernel
theorem dX8_takeNumber_45 : decode cX8_takeNumber 45 = .ok (.isub, 1) := by decide +kernel
theorem dX8_takeNumber_46 : decode cX8_takeNumber 46 = .ok (.istore_n 1, 1) := by decide +kernel
theorem dX8_takeNumber_47 : decode cX8_takeNumber 47 = .ok (.aload_n 0, 1) := by decide +kernel
theorem dX8_takeNumber_48 : decode cX8_takeNumber 48 = .ok (.dup, 1) := by decide +kernel
theorem dX8_takeNumber_49 : decode cX8_takeNumber 49 = .ok (.getfield 215, 3) := by decide +kernel
theorem dX8_takeNumber_52 : decode cX8_takeNumber 52 = .ok (.iconst 1, 1) := by decide +kernel
theorem dX8_takeNumber_53 : decode cX8_takeNumber 53 = .ok (.iadd, 1) := by decide +kernel
theorem dX8_takeNumber_54 : decode cX8_takeNumber 54 = .ok (.putfield 215, 3) := by decide +kernel
theorem dX8_takeNumber_57 : decode cX8_takeNumber 57 = .ok (.iload_n 1, 1) := by decide +kernel
theorem dX8_takeNumber_58 : decode cX8_takeNumber 58 = .ok (.ifCond .le 46, 3) := by decide +kernel
theorem dX8_takeNumber_61 : decode cX8_takeNumber 61 = .ok (.aload_n 0, 1) := by decide +kernel
theorem dX8_takeNumber_62 : decode cX8_takeNumber 62 = .ok (.aload_n 0, 1) := by decide +kernel
theorem dX8_takeNumber_63 : decode cX8_takeNumber 63 = .ok (.getfield 215, 3) := by decide +kernel
theorem dX8_takeNumber_66 : decode cX8_takeNumber 66 = .ok (.invokevirtual 218, 3) := by decide +kernel
theorem dX8_takeNumber_69 : decode cX8_takeNumber 69 = .ok (.bipush 48, 2) := by decide +kernel
theorem dX8_takeNumber_71 : decode cX8_takeNumber 71 = .ok (.bipush 57, 2) := by decide +kernel
theorem dX8_takeNumber_73 : decode cX8_takeNumber 73 = .ok (.invokestatic 36, 3) := by decide +kernel
theorem dX8_takeNumber_76 : decode cX8_takeNumber 76 = .ok (.ifCond .eq 28, 3) := by decide +kernel
theorem dX8_takeNumber_79 : decode cX8_takeNumber 79 = .ok (.bipush 10, 2) := by decide +kernel
theorem dX8_takeNumber_81 : decode cX8_takeNumber 81 = .ok (.iload_n 1, 1) := by decide +kernel
theorem dX8_takeNumber_82 : decode cX8_takeNumber 82 = .ok (.imul, 1) := by decide +kernel
theorem dX8_takeNumber_83 : decode cX8_takeNumber 83 = .ok (.aload_n 0, 1) := by decide +kernel
theorem dX8_takeNumber_84 : decode cX8_takeNumber 84 = .ok (.aload_n 0, 1) := by decide +kernel
theorem dX8_takeNumber_85 : decode cX8_takeNumber 85 = .ok (.getfield 215, 3) := by decide +kernel
theorem dX8_takeNumber_88 : decode cX8_takeNumber 88 = .ok (.invokevirtual 218, 3) := by decide +kernel
theorem dX8_takeNumber_91 : decode cX8_takeNumber 91 = .ok (.iadd, 1) := by decide +kernel
theorem dX8_takeNumber_92 : decode cX8_takeNumber 92 = .ok (.bipush 48, 2) := by decide +kernel
theorem dX8_takeNumber_94 : decode cX8_takeNumber 94 = .ok (.isub, 1) := by decide +kernel
theorem dX8_takeNumber_95 : decode cX8_takeNumber 95 = .ok (.bipush 119, 2) := by decide +kernel
theorem dX8_takeNumber_97 : decode cX8_takeNumber 97 = .ok (.if_icmp .gt 7, 3) := by decide +kernel
theorem dX8_takeNumber_100 : decode cX8_takeNumber 100 = .ok (.iconst 1, 1) := by decide +kernel
theorem dX8_takeNumber_101 : decode cX8_takeNumber 101 = .ok (.goto 4, 3) := by decide +kernel
theorem dX8_takeNumber_104 : decode cX8_takeNumber 104 = .ok (.iconst 0, 1) := by decide +kernel
theorem dX8_takeNumber_105 : decode cX8_takeNumber 105 = .ok (.istore_n 2, 1) := by decide +kernel
theorem dX8_takeNumber_106 : decode cX8_takeNumber 106 = .ok (.goto (-88), 3) := by decide +kernel
theorem dX8_takeNumber_109 : decode cX8_takeNumber 109 = .ok (.iload_n 1, 1) := by decide +kernel
theorem dX8_takeNumber_110 : decode cX8_takeNumber 110 = .ok (.ireturn, 1) := by decide +kernel
theorem dX8_isOrder_0 : decode cX8_isOrder 0 = .ok (.iload_n 0, 1) := by decide +kernel
theorem dX8_isOrder_1 : decode cX8_isOrder 1 = .ok (.bipush 107, 2) := by decide +kernel
theorem dX8_isOrder_3 : decode cX8_isOrder 3 = .ok (.if_icmp .eq 33, 3) := by decide +kernel
theorem dX8_isOrder_6 : decode cX8_isOrder 6 = .ok (.iload_n 0, 1) := by decide +kernel
theorem dX8_isOrder_7 : decode cX8_isOrder 7 = .ok (.bipush 98, 2) := by decide +kernel
theorem dX8_isOrder_9 : decode cX8_isOrder 9 = .ok (.if_icmp .eq 27, 3) := by decide +kernel
theorem dX8_isOrder_12 : decode cX8_isOrder 12 = .ok (.iload_n 0, 1) := by decide +kernel
theorem dX8_isOrder_13 : decode cX8_isOrder 13 = .ok (.bipush 114, 2) := by decide +kernel
theorem dX8_isOrder_15 : decode cX8_isOrder 15 = .ok (.if_icmp .eq 21, 3) := by decide +kernel
theorem dX8_isOrder_18 : decode cX8_isOrder 18 = .ok (.iload_n 0, 1) := by decide +kernel
theorem dX8_isOrder_19 : decode cX8_isOrder 19 = .ok (.bipush 120, 2) := by decide +kernel
theorem dX8_isOrder_21 : decode cX8_isOrder 21 = .ok (.if_icmp .eq 15, 3) := by decide +kernel
theorem dX8_isOrder_24 : decode cX8_isOrder 24 = .ok (.iload_n 0, 1) := by decide +kernel
theorem dX8_isOrder_25 : decode cX8_isOrder 25 = .ok (.bipush 121, 2) := by decide +kernel
theorem dX8_isOrder_27 : decode cX8_isOrder 27 = .ok (.if_icmp .eq 9, 3) := by decide +kernel
theorem dX8_isOrder_30 : decode cX8_isOrder 30 = .ok (.iload_n 0, 1) := by decide +kernel
theorem dX8_isOrder_31 : decode cX8_isOrder 31 = .ok (.bipush 99, 2) := by decide +kernel
theorem dX8_isOrder_33 : decode cX8_isOrder 33 = .ok (.if_icmp .ne 7, 3) := by decide +kernel
theorem dX8_isOrder_36 : decode cX8_isOrder 36 = .ok (.iconst 1, 1) := by decide +kernel
theorem dX8_isOrder_37 : decode cX8_isOrder 37 = .ok (.goto 4, 3) := by decide +kernel
theorem dX8_isOrder_40 : decode cX8_isOrder 40 = .ok (.iconst 0, 1) := by decide +kernel
theorem dX8_isOrder_41 : decode cX8_isOrder 41 = .ok (.ireturn, 1) := by decide +kernel
theorem dX8_readsOrder_0 : decode cX8_readsOrder 0 = .ok (.aload_n 0, 1) := by decide +kernel
theorem dX8_readsOrder_1 : decode cX8_readsOrder 1 = .ok (.aload_n 0, 1) := by decide +kernel
theorem dX8_readsOrder_2 : decode cX8_readsOrder 2 = .ok (.aload_n 0, 1) := by decide +kernel
theorem dX8_readsOrder_3 : decode cX8_readsOrder 3 = .ok (.getfield 215, 3) := by decide +kernel
theorem dX8_readsOrder_6 : decode cX8_readsOrder 6 = .ok (.invokevirtual 218, 3) := by decide +kernel
theorem dX8_readsOrder_9 : decode cX8_readsOrder 9 = .ok (.putfield 221, 3) := by decide +kernel
theorem dX8_readsOrder_12 : decode cX8_readsOrder 12 = .ok (.aload_n 0, 1) := by decide +kernel
theorem dX8_readsOrder_13 : decode cX8_readsOrder 13 = .ok (.getfield 221, 3) := by decide +kernel
theorem dX8_readsOrder_16 : decode cX8_readsOrder 16 = .ok (.invokestatic 224, 3) := by decide +kernel
theorem dX8_readsOrder_19 : decode cX8_readsOrder 19 = .ok (.ifCond .ne 5, 3) := by decide +kernel
theorem dX8_readsOrder_22 : decode cX8_readsOrder 22 = .ok (.iconst 0, 1) := by decide +kernel
theorem dX8_readsOrder_23 : decode cX8_readsOrder 23 = .ok (.ireturn, 1) := by decide +kernel
theorem dX8_readsOrder_24 : decode cX8_readsOrder 24 = .ok (.aload_n 0, 1) := by decide +kernel
theorem dX8_readsOrder_25 : decode cX8_readsOrder 25 = .ok (.dup, 1) := by decide +kernel
theorem dX8_readsOrder_26 : decode cX8_readsOrder 26 = .ok (.getfield 215, 3) := by decide +kernel
theorem dX8_readsOrder_29 : decode cX8_readsOrder 29 = .ok (.iconst 1, 1) := by decide +kernel
theorem dX8_readsOrder_30 : decode cX8_readsOrder 30 = .ok (.iadd, 1) := by decide +kernel
theorem dX8_readsOrder_31 : decode cX8_readsOrder 31 = .ok (.putfield 215, 3) := by decide +kernel
theorem dX8_readsOrder_34 : decode cX8_readsOrder 34 = .ok (.aload_n 0, 1) := by decide +kernel
theorem dX8_readsOrder_35 : decode cX8_readsOrder 35 = .ok (.getfield 221, 3) := by decide +kernel
theorem dX8_readsOrder_38 : decode cX8_readsOrder 38 = .ok (.bipush 107, 2) := by decide +kernel
theorem dX8_readsOrder_40 : decode cX8_readsOrder 40 = .ok (.if_icmp .ne 20, 3) := by decide +kernel
theorem dX8_readsOrder_43 : decode cX8_readsOrder 43 = .ok (.aload_n 0, 1) := by decide +kernel
theorem dX8_readsOrder_44 : decode cX8_readsOrder 44 = .ok (.bipush 45, 2) := by decide +kernel
theorem dX8_readsOrder_46 : decode cX8_readsOrder 46 = .ok (.invokevirtual 227, 3) := by decide +kernel
theorem dX8_readsOrder_49 : decode cX8_readsOrder 49 = .ok (.ifCond .eq 11, 3) := by decide +kernel
theorem dX8_readsOrder_52 : decode cX8_readsOrder 52 = .ok (.aload_n 0, 1) := by decide +kernel
theorem dX8_readsOrder_53 : decode cX8_readsOrder 53 = .ok (.bipush (-6), 2) := by decide +kernel
theorem dX8_readsOrder_55 : decode cX8_readsOrder 55 = .ok (.putfield 230, 3) := by decide +kernel
theorem dX8_readsOrder_58 : decode cX8_readsOrder 58 = .ok (.iconst 1, 1) := by decide +kernel
theorem dX8_readsOrder_59 : decode cX8_readsOrder 59 = .ok (.ireturn, 1) := by decide +kernel
theorem dX8_readsOrder_60 : decode cX8_readsOrder 60 = .ok (.aload_n 0, 1) := by decide +kernel
theorem dX8_readsOrder_61 : decode cX8_readsOrder 61 = .ok (.aload_n 0, 1) := by decide +kernel
theorem dX8_readsOrder_62 : decode cX8_readsOrder 62 = .ok (.invokevirtual 233, 3) := by decide +kernel
theorem dX8_readsOrder_65 : decode cX8_readsOrder 65 = .ok (.putfield 230, 3) := by decide +kernel
theorem dX8_readsOrder_68 : decode cX8_readsOrder 68 = .ok (.aload_n 0, 1) := by decide +kernel
theorem dX8_readsOrder_69 : decode cX8_readsOrder 69 = .ok (.getfield 230, 3) := by decide +kernel
theorem dX8_readsOrder_72 : decode cX8_readsOrder 72 = .ok (.ifCond .lt 12, 3) := by decide +kernel
theorem dX8_readsOrder_75 : decode cX8_readsOrder 75 = .ok (.aload_n 0, 1) := by decide +kernel
theorem dX8_readsOrder_76 : decode cX8_readsOrder 76 = .ok (.getfield 221, 3) := by decide +kernel
theorem dX8_readsOrder_79 : decode cX8_readsOrder 79 = .ok (.bipush 99, 2) := by decide +kernel
theorem dX8_readsOrder_81 : decode cX8_readsOrder 81 = .ok (.if_icmp .eq 16, 3) := by decide +kernel
theorem dX8_readsOrder_84 : decode cX8_readsOrder 84 = .ok (.aload_n 0, 1) := by decide +kernel
theorem dX8_readsOrder_85 : decode cX8_readsOrder 85 = .ok (.getfield 230, 3) := by decide +kernel
theorem dX8_readsOrder_88 : decode cX8_readsOrder 88 = .ok (.ifCond .lt 7, 3) := by decide +kernel
theorem dX8_readsOrder_91 : decode cX8_readsOrder 91 = .ok (.iconst 1, 1) := by decide +kernel
theorem dX8_readsOrder_92 : decode cX8_readsOrder 92 = .ok (.goto 4, 3) := by decide +kernel
theorem dX8_readsOrder_95 : decode cX8_readsOrder 95 = .ok (.iconst 0, 1) := by decide +kernel
theorem dX8_readsOrder_96 : decode cX8_readsOrder 96 = .ok (.ireturn, 1) := by decide +kernel
theorem dX8_readsOrder_97 : decode cX8_readsOrder 97 = .ok (.aload_n 0, 1) := by decide +kernel
theorem dX8_readsOrder_98 : decode cX8_readsOrder 98 = .ok (.bipush 64, 2) := by decide +kernel
theorem dX8_readsOrder_100 : decode cX8_readsOrder 100 = .ok (.invokevirtual 227, 3) := by decide +kernel
theorem dX8_readsOrder_103 : decode cX8_readsOrder 103 = .ok (.ifCond .eq 21, 3) := by decide +kernel
theorem dX8_readsOrder_106 : decode cX8_readsOrder 106 = .ok (.aload_n 0, 1) := by decide +kernel
theorem dX8_readsOrder_107 : decode cX8_readsOrder 107 = .ok (.aload_n 0, 1) := by decide +kernel
theorem dX8_readsOrder_108 : decode cX8_readsOrder 108 = .ok (.getfield 215, 3) := by decide +kernel
theorem dX8_readsOrder_111 : decode cX8_readsOrder 111 = .ok (.invokevirtual 218, 3) := by decide +kernel
theorem dX8_readsOrder_114 : decode cX8_readsOrder 114 = .ok (.bipush 48, 2) := by decide +kernel
theorem dX8_readsOrder_116 : decode cX8_readsOrder 116 = .ok (.bipush 50, 2) := by decide +kernel
theorem dX8_readsOrder_118 : decode cX8_readsOrder 118 = .ok (.invokestatic 36, 3) := by decide +kernel
theorem dX8_readsOrder_121 : decode cX8_readsOrder 121 = .ok (.ifCond .ne 5, 3) := by decide +kernel
theorem dX8_readsOrder_124 : decode cX8_readsOrder 124 = .ok (.iconst 0, 1) := by decide +kernel
theorem dX8_readsOrder_125 : decode cX8_readsOrder 125 = .ok (.ireturn, 1) := by decide +kernel
theorem dX8_readsOrder_126 : decode cX8_readsOrder 126 = .ok (.aload_n 0, 1) := by decide +kernel
theorem dX8_readsOrder_127 : decode cX8_readsOrder 127 = .ok (.aload_n 0, 1) := by decide +kernel
theorem dX8_readsOrder_128 : decode cX8_readsOrder 128 = .ok (.aload_n 0, 1) := by decide +kernel
theorem dX8_readsOrder_129 : decode cX8_readsOrder 129 = .ok (.getfield 215, 3) := by decide +kernel
theorem dX8_readsOrder_132 : decode cX8_readsOrder 132 = .ok (.invokevirtual 218, 3) := by decide +kernel
theorem dX8_readsOrder_135 : decode cX8_readsOrder 135 = .ok (.bipush 48, 2) := by decide +kernel
theorem dX8_readsOrder_137 : decode cX8_readsOrder 137 = .ok (.isub, 1) := by decide +kernel
theorem dX8_readsOrder_138 : decode cX8_readsOrder 138 = .ok (.putfield 236, 3) := by decide +kernel
theorem dX8_readsOrder_141 : decode cX8_readsOrder 141 = .ok (.aload_n 0, 1) := by decide +kernel
theorem dX8_readsOrder_142 : decode cX8_readsOrder 142 = .ok (.dup, 1) := by decide +kernel
theorem dX8_readsOrder_143 : decode cX8_readsOrder 143 = .ok (.getfield 215, 3) := by decide +kernel
theorem dX8_readsOrder_146 : decode cX8_readsOrder 146 = .ok (.iconst 1, 1) := by decide +kernel
theorem dX8_readsOrder_147 : decode cX8_readsOrder 147 = .ok (.iadd, 1) := by decide +kernel
theorem dX8_readsOrder_148 : decode cX8_readsOrder 148 = .ok (.putfield 215, 3) := by decide +kernel
theorem dX8_readsOrder_151 : decode cX8_readsOrder 151 = .ok (.iconst 1, 1) := by decide +kernel
theorem dX8_readsOrder_152 : decode cX8_readsOrder 152 = .ok (.ireturn, 1) := by decide +kernel
theorem dX8_findFault_0 : decode cX8_findFault 0 = .ok (.aload_n 0, 1) := by decide +kernel
theorem dX8_findFault_1 : decode cX8_findFault 1 = .ok (.iconst 0, 1) := by decide +kernel
theorem dX8_findFault_2 : decode cX8_findFault 2 = .ok (.putfield 215, 3) := by decide +kernel
theorem dX8_findFault_5 : decode cX8_findFault 5 = .ok (.aload_n 0, 1) := by decide +kernel
theorem dX8_findFault_6 : decode cX8_findFault 6 = .ok (.invokevirtual 239, 3) := by decide +kernel
theorem dX8_findFault_9 : decode cX8_findFault 9 = .ok (.ifCond .ne 8, 3) := by decide +kernel
theorem dX8_findFault_12 : decode cX8_findFault 12 = .ok (.aload_n 0, 1) := by decide +kernel
theorem dX8_findFault_13 : decode cX8_findFault 13 = .ok (.getfield 215, 3) := by decide +kernel
theorem dX8_findFault_16 : decode cX8_findFault 16 = .ok (.ireturn, 1) := by decide +kernel
theorem dX8_findFault_17 : decode cX8_findFault 17 = .ok (.aload_n 0, 1) := by decide +kernel
theorem dX8_findFault_18 : decode cX8_findFault 18 = .ok (.getfield 215, 3) := by decide +kernel
theorem dX8_findFault_21 : decode cX8_findFault 21 = .ok (.aload_n 0, 1) := by decide +kernel
theorem dX8_findFault_22 : decode cX8_findFault 22 = .ok (.getfield 204, 3) := by decide +kernel
theorem dX8_findFault_25 : decode cX8_findFault 25 = .ok (.if_icmp .ne 6, 3) := by decide +kernel
theorem dX8_findFault_28 : decode cX8_findFault 28 = .ok (.bipush (-6), 2) := by decide +kernel
theorem dX8_findFault_30 : decode cX8_findFault 30 = .ok (.ireturn, 1) := by decide +kernel
theorem dX8_findFault_31 : decode cX8_findFault 31 = .ok (.aload_n 0, 1) := by decide +kernel
theorem dX8_findFault_32 : decode cX8_findFault 32 = .ok (.bipush 59, 2) := by decide +kernel
theorem dX8_findFault_34 : decode cX8_findFault 34 = .ok (.invokevirtual 227, 3) := by decide +kernel
theorem dX8_findFault_37 : decode cX8_findFault 37 = .ok (.ifCond .ne (-32), 3) := by decide +kernel
theorem dX8_findFault_40 : decode cX8_findFault 40 = .ok (.aload_n 0, 1) := by decide +kernel
theorem dX8_findFault_41 : decode cX8_findFault 41 = .ok (.getfield 215, 3) := by decide +kernel
theorem dX8_findFault_44 : decode cX8_findFault 44 = .ok (.ireturn, 1) := by decide +kernel
theorem dX8_fault_0 : decode cX8_fault 0 = .ok (.aload_n 0, 1) := by decide +kernel
theorem dX8_fault_1 : decode cX8_fault 1 = .ok (.invokevirtual 243, 3) := by decide +kernel
theorem dX8_fault_4 : decode cX8_fault 4 = .ok (.ireturn, 1) := by decide +kernel
theorem dX8_whyNotDone_0 : decode cX8_whyNotDone 0 = .ok (.aload_n 0, 1) := by decide +kernel
theorem dX8_whyNotDone_1 : decode cX8_whyNotDone 1 = .ok (.getfield 221, 3) := by decide +kernel
theorem dX8_whyNotDone_4 : decode cX8_whyNotDone 4 = .ok (.lookupswitch 97 #[(98, 61), (107, 52), (114, 70), (120, 79), (121, 88)], 52) := by decide +kernel
theorem dX8_whyNotDone_56 : decode cX8_whyNotDone 56 = .ok (.aload_n 0, 1) := by decide +kernel
theorem dX8_whyNotDone_57 : decode cX8_whyNotDone 57 = .ok (.aload_n 0, 1) := by decide +kernel
theorem dX8_whyNotDone_58 : decode cX8_whyNotDone 58 = .ok (.getfield 230, 3) := by decide +kernel
theorem dX8_whyNotDone_61 : decode cX8_whyNotDone 61 = .ok (.invokevirtual 111, 3) := by decide +kernel
theorem dX8_whyNotDone_64 : decode cX8_whyNotDone 64 = .ok (.ireturn, 1) := by decide +kernel
theorem dX8_whyNotDone_65 : decode cX8_whyNotDone 65 = .ok (.aload_n 0, 1) := by decide +kernel
theorem dX8_whyNotDone_66 : decode cX8_whyNotDone 66 = .ok (.aload_n 0, 1) := by decide +kernel
theorem dX8_whyNotDone_67 : decode cX8_whyNotDone 67 = .ok (.getfield 230, 3) := by decide +kernel
theorem dX8_whyNotDone_70 : decode cX8_whyNotDone 70 = .ok (.invokevirtual 120, 3) := by decide +kernel
theorem dX8_whyNotDone_73 : decode cX8_whyNotDone 73 = .ok (.ireturn, 1) := by decide +kernel
theorem dX8_whyNotDone_74 : decode cX8_whyNotDone 74 = .ok (.aload_n 0, 1) := by decide +kernel
theorem dX8_whyNotDone_75 : decode cX8_whyNotDone 75 = .ok (.aload_n 0, 1) := by decide +kernel
theorem dX8_whyNotDone_76 : decode cX8_whyNotDone 76 = .ok (.getfield 230, 3) := by decide +kernel
theorem dX8_whyNotDone_79 : decode cX8_whyNotDone 79 = .ok (.invokevirtual 147, 3) := by decide +kernel
theorem dX8_whyNotDone_82 : decode cX8_whyNotDone 82 = .ok (.ireturn, 1) := by decide +kernel
theorem dX8_whyNotDone_83 : decode cX8_whyNotDone 83 = .ok (.aload_n 0, 1) := by decide +kernel
theorem dX8_whyNotDone_84 : decode cX8_whyNotDone 84 = .ok (.aload_n 0, 1) := by decide +kernel
theorem dX8_whyNotDone_85 : decode cX8_whyNotDone 85 = .ok (.getfield 230, 3) := by decide +kernel
theorem dX8_whyNotDone_88 : decode cX8_whyNotDone 88 = .ok (.invokevirtual 171, 3) := by decide +kernel
theorem dX8_whyNotDone_91 : decode cX8_whyNotDone 91 = .ok (.ireturn, 1) := by decide +kernel
theorem dX8_whyNotDone_92 : decode cX8_whyNotDone 92 = .ok (.aload_n 0, 1) := by decide +kernel
theorem dX8_whyNotDone_93 : decode cX8_whyNotDone 93 = .ok (.aload_n 0, 1) := by decide +kernel
theorem dX8_whyNotDone_94 : decode cX8_whyNotDone 94 = .ok (.getfield 230, 3) := by decide +kernel
theorem dX8_whyNotDone_97 : decode cX8_whyNotDone 97 = .ok (.invokevirtual 180, 3) := by decide +kernel
theorem dX8_whyNotDone_100 : decode cX8_whyNotDone 100 = .ok (.ireturn, 1) := by decide +kernel
theorem dX8_whyNotDone_101 : decode cX8_whyNotDone 101 = .ok (.aload_n 0, 1) := by decide +kernel
theorem dX8_whyNotDone_102 : decode cX8_whyNotDone 102 = .ok (.aload_n 0, 1) := by decide +kernel
theorem dX8_whyNotDone_103 : decode cX8_whyNotDone 103 = .ok (.getfield 230, 3) := by decide +kernel
theorem dX8_whyNotDone_106 : decode cX8_whyNotDone 106 = .ok (.aload_n 0, 1) := by decide +kernel
theorem dX8_whyNotDone_107 : decode cX8_whyNotDone 107 = .ok (.getfield 236, 3) := by decide +kernel
theorem dX8_whyNotDone_110 : decode cX8_whyNotDone 110 = .ok (.invokevirtual 126, 3) := by decide +kernel
theorem dX8_whyNotDone_113 : decode cX8_whyNotDone 113 = .ok (.ireturn, 1) := by decide +kernel
theorem dX8_does_0 : decode cX8_does 0 = .ok (.aload_n 0, 1) := by decide +kernel
theorem dX8_does_1 : decode cX8_does 1 = .ok (.getfield 221, 3) := by decide +kernel
theorem dX8_does_4 : decode cX8_does 4 = .ok (.lookupswitch 112 #[(98, 64), (107, 52), (114, 76), (120, 88), (121, 100)], 52) := by decide +kernel
theorem dX8_does_56 : decode cX8_does 56 = .ok (.aload_n 0, 1) := by decide +kernel
theorem dX8_does_57 : decode cX8_does 57 = .ok (.aload_n 0, 1) := by decide +kernel
theorem dX8_does_58 : decode cX8_does 58 = .ok (.getfield 230, 3) := by decide +kernel
theorem dX8_does_61 : decode cX8_does 61 = .ok (.invokevirtual 114, 3) := by decide +kernel
theorem dX8_does_64 : decode cX8_does 64 = .ok (.pop, 1) := by decide +kernel
theorem dX8_does_65 : decode cX8_does 65 = .ok (.goto 64, 3) := by decide +kernel
theorem dX8_does_68 : decode cX8_does 68 = .ok (.aload_n 0, 1) := by decide +kernel
theorem dX8_does_69 : decode cX8_does 69 = .ok (.aload_n 0, 1) := by decide +kernel
theorem dX8_does_70 : decode cX8_does 70 = .ok (.getfield 230, 3) := by decide +kernel
theorem dX8_does_73 : decode cX8_does 73 = .ok (.invokevirtual 123, 3) := by decide +kernel
theorem dX8_does_76 : decode cX8_does 76 = .ok (.pop, 1) := by decide +kernel
theorem dX8_does_77 : decode cX8_does 77 = .ok (.goto 52, 3) := by decide +kernel
theorem dX8_does_80 : decode cX8_does 80 = .ok (.aload_n 0, 1) := by decide +kernel
theorem dX8_does_81 : decode cX8_does 81 = .ok (.aload_n 0, 1) := by decide +kernel
theorem dX8_does_82 : decode cX8_does 82 = .ok (.getfield 230, 3) := by decide +kernel
theorem dX8_does_85 : decode cX8_does 85 = .ok (.invokevirtual 150, 3) := by decide +kernel
theorem dX8_does_88 : decode cX8_does 88 = .ok (.pop, 1) := by decide +kernel
theorem dX8_does_89 : decode cX8_does 89 = .ok (.goto 40, 3) := by decide +kernel
theorem dX8_does_92 : decode cX8_does 92 = .ok (.aload_n 0, 1) := by decide +kernel
theorem dX8_does_93 : decode cX8_does 93 = .ok (.aload_n 0, 1) := by decide +kernel
theorem dX8_does_94 : decode cX8_does 94 = .ok (.getfield 230, 3) := by decide +kernel
theorem dX8_does_97 : decode cX8_does 97 = .ok (.invokevirtual 174, 3) := by decide +kernel
theorem dX8_does_100 : decode cX8_does 100 = .ok (.pop, 1) := by decide +kernel
theorem dX8_does_101 : decode cX8_does 101 = .ok (.goto 28, 3) := by decide +kernel
theorem dX8_does_104 : decode cX8_does 104 = .ok (.aload_n 0, 1) := by decide +kernel
theorem dX8_does_105 : decode cX8_does 105 = .ok (.aload_n 0, 1) := by decide +kernel
theorem dX8_does_106 : decode cX8_does 106 = .ok (.getfield 230, 3) := by decide +kernel
theorem dX8_does_109 : decode cX8_does 109 = .ok (.invokevirtual 183, 3) := by decide +kernel
theorem dX8_does_112 : decode cX8_does 112 = .ok (.pop, 1) := by decide +kernel
theorem dX8_does_113 : decode cX8_does 113 = .ok (.goto 16, 3) := by decide +kernel
theorem dX8_does_116 : decode cX8_does 116 = .ok (.aload_n 0, 1) := by decide +kernel
theorem dX8_does_117 : decode cX8_does 117 = .ok (.aload_n 0, 1) := by decide +kernel
theorem dX8_does_118 : decode cX8_does 118 = .ok (.getfield 230, 3) := by decide +kernel
theorem dX8_does_121 : decode cX8_does 121 = .ok (.aload_n 0, 1) := by decide +kernel
theorem dX8_does_122 : decode cX8_does 122 = .ok (.getfield 236, 3) := by decide +kernel
theorem dX8_does_125 : decode cX8_does 125 = .ok (.invokevirtual 129, 3) := by decide +kernel
theorem dX8_does_128 : decode cX8_does 128 = .ok (.pop, 1) := by decide +kernel
theorem dX8_does_129 : decode cX8_does 129 = .ok (.return_, 1) := by decide +kernel
theorem dX8_carryOut_0 : decode cX8_carryOut 0 = .ok (.aload_n 0, 1) := by decide +kernel
theorem dX8_carryOut_1 : decode cX8_carryOut 1 = .ok (.invokevirtual 243, 3) := by decide +kernel
theorem dX8_carryOut_4 : decode cX8_carryOut 4 = .ok (.bipush (-6), 2) := by decide +kernel
theorem dX8_carryOut_6 : decode cX8_carryOut 6 = .ok (.if_icmp .eq 6, 3) := by decide +kernel
theorem dX8_carryOut_9 : decode cX8_carryOut 9 = .ok (.bipush (-3), 2) := by decide +kernel
theorem dX8_carryOut_11 : decode cX8_carryOut 11 = .ok (.ireturn, 1) := by decide +kernel
theorem dX8_carryOut_12 : decode cX8_carryOut 12 = .ok (.aload_n 0, 1) := by decide +kernel
theorem dX8_carryOut_13 : decode cX8_carryOut 13 = .ok (.invokevirtual 102, 3) := by decide +kernel
theorem dX8_carryOut_16 : decode cX8_carryOut 16 = .ok (.iconst 0, 1) := by decide +kernel
theorem dX8_carryOut_17 : decode cX8_carryOut 17 = .ok (.istore_n 1, 1) := by decide +kernel
theorem dX8_carryOut_18 : decode cX8_carryOut 18 = .ok (.aload_n 0, 1) := by decide +kernel
theorem dX8_carryOut_19 : decode cX8_carryOut 19 = .ok (.iconst 0, 1) := by decide +kernel
theorem dX8_carryOut_20 : decode cX8_carryOut 20 = .ok (.putfield 215, 3) := by decide +kernel
theorem dX8_carryOut_23 : decode cX8_carryOut 23 = .ok (.iconst 1, 1) := by decide +kernel
theorem dX8_carryOut_24 : decode cX8_carryOut 24 = .ok (.istore_n 2, 1) := by decide +kernel
theorem dX8_carryOut_25 : decode cX8_carryOut 25 = .ok (.iload_n 2, 1) := by decide +kernel
theorem dX8_carryOut_26 : decode cX8_carryOut 26 = .ok (.ifCond .eq 53, 3) := by decide +kernel
theorem dX8_carryOut_29 : decode cX8_carryOut 29 = .ok (.aload_n 0, 1) := by decide +kernel
theorem dX8_carryOut_30 : decode cX8_carryOut 30 = .ok (.getfield 215, 3) := by decide +kernel
theorem dX8_carryOut_33 : decode cX8_carryOut 33 = .ok (.aload_n 0, 1) := by decide +kernel
theorem dX8_carryOut_34 : decode cX8_carryOut 34 = .ok (.getfield 204, 3) := by decide +kernel
theorem dX8_carryOut_37 : decode cX8_carryOut 37 = .ok (.if_icmp .ge 42, 3) := by decide +kernel
theorem dX8_carryOut_40 : decode cX8_carryOut 40 = .ok (.aload_n 0, 1) := by decide +kernel
theorem dX8_carryOut_41 : decode cX8_carryOut 41 = .ok (.invokevirtual 239, 3) := by decide +kernel
theorem dX8_carryOut_44 : decode cX8_carryOut 44 = .ok (.pop, 1) := by decide +kernel
theorem dX8_carryOut_45 : decode cX8_carryOut 45 = .ok (.aload_n 0, 1) := by decide +kernel
theorem dX8_carryOut_46 : decode cX8_carryOut 46 = .ok (.bipush 59, 2) := by decide +kernel
theorem dX8_carryOut_48 : decode cX8_carryOut 48 = .ok (.invokevirtual 227, 3) := by decide +kernel
theorem dX8_carryOut_51 : decode cX8_carryOut 51 = .ok (.pop, 1) := by decide +kernel
theorem dX8_carryOut_52 : decode cX8_carryOut 52 = .ok (.aload_n 0, 1) := by decide +kernel
theorem dX8_carryOut_53 : decode cX8_carryOut 53 = .ok (.invokevirtual 246, 3) := by decide +kernel
theorem dX8_carryOut_56 : decode cX8_carryOut 56 = .ok (.ifCond .ne 7, 3) := by decide +kernel
theorem dX8_carryOut_59 : decode cX8_carryOut 59 = .ok (.iconst 1, 1) := by decide +kernel
theorem dX8_carryOut_60 : decode cX8_carryOut 60 = .ok (.goto 4, 3) := by decide +kernel
theorem dX8_carryOut_63 : decode cX8_carryOut 63 = .ok (.iconst 0, 1) := by decide +kernel
theorem dX8_carryOut_64 : decode cX8_carryOut 64 = .ok (.istore_n 2, 1) := by decide +kernel
theorem dX8_carryOut_65 : decode cX8_carryOut 65 = .ok (.iload_n 2, 1) := by decide +kernel
theorem dX8_carryOut_66 : decode cX8_carryOut 66 = .ok (.ifCond .eq (-41), 3) := by decide +kernel
theorem dX8_carryOut_69 : decode cX8_carryOut 69 = .ok (.aload_n 0, 1) := by decide +kernel
theorem dX8_carryOut_70 : decode cX8_carryOut 70 = .ok (.invokevirtual 249, 3) := by decide +kernel
theorem dX8_carryOut_73 : decode cX8_carryOut 73 = .ok (.iinc 1 1, 3) := by decide +kernel
theorem dX8_carryOut_76 : decode cX8_carryOut 76 = .ok (.goto (-51), 3) := by decide +kernel
theorem dX8_carryOut_79 : decode cX8_carryOut 79 = .ok (.aload_n 0, 1) := by decide +kernel
theorem dX8_carryOut_80 : decode cX8_carryOut 80 = .ok (.iconst 0, 1) := by decide +kernel
theorem dX8_carryOut_81 : decode cX8_carryOut 81 = .ok (.putfield 204, 3) := by decide +kernel
theorem dX8_carryOut_84 : decode cX8_carryOut 84 = .ok (.iload_n 1, 1) := by decide +kernel
theorem dX8_carryOut_85 : decode cX8_carryOut 85 = .ok (.ireturn, 1) := by decide +kernel
theorem dX8_undo_0 : decode cX8_undo 0 = .ok (.aload_n 0, 1) := by decide +kernel
theorem dX8_undo_1 : decode cX8_undo 1 = .ok (.getfield 28, 3) := by decide +kernel
theorem dX8_undo_4 : decode cX8_undo 4 = .ok (.ifCond .ne 6, 3) := by decide +kernel
theorem dX8_undo_7 : decode cX8_undo 7 = .ok (.bipush (-5), 2) := by decide +kernel
theorem dX8_undo_9 : decode cX8_undo 9 = .ok (.ireturn, 1) := by decide +kernel
theorem dX8_undo_10 : decode cX8_undo 10 = .ok (.aload_n 0, 1) := by decide +kernel
theorem dX8_undo_11 : decode cX8_undo 11 = .ok (.dup, 1) := by decide +kernel
theorem dX8_undo_12 : decode cX8_undo 12 = .ok (.getfield 28, 3) := by decide +kernel
theorem dX8_undo_15 : decode cX8_undo 15 = .ok (.iconst 1, 1) := by decide +kernel
theorem dX8_undo_16 : decode cX8_undo 16 = .ok (.isub, 1) := by decide +kernel
theorem dX8_undo_17 : decode cX8_undo 17 = .ok (.putfield 28, 3) := by decide +kernel
theorem dX8_undo_20 : decode cX8_undo 20 = .ok (.aload_n 0, 1) := by decide +kernel
theorem dX8_undo_21 : decode cX8_undo 21 = .ok (.getfield 13, 3) := by decide +kernel
theorem dX8_undo_24 : decode cX8_undo 24 = .ok (.aload_n 0, 1) := by decide +kernel
theorem dX8_undo_25 : decode cX8_undo 25 = .ok (.getfield 28, 3) := by decide +kernel
theorem dX8_undo_28 : decode cX8_undo 28 = .ok (.sipush 844, 3) := by decide +kernel
theorem dX8_undo_31 : decode cX8_undo 31 = .ok (.imul, 1) := by decide +kernel
theorem dX8_undo_32 : decode cX8_undo 32 = .ok (.aload_n 0, 1) := by decide +kernel
theorem dX8_undo_33 : decode cX8_undo 33 = .ok (.getfield 7, 3) := by decide +kernel
theorem dX8_undo_36 : decode cX8_undo 36 = .ok (.iconst 0, 1) := by decide +kernel
theorem dX8_undo_37 : decode cX8_undo 37 = .ok (.invokestatic 32, 3) := by decide +kernel
theorem dX8_undo_40 : decode cX8_undo 40 = .ok (.aload_n 0, 1) := by decide +kernel
theorem dX8_undo_41 : decode cX8_undo 41 = .ok (.getfield 28, 3) := by decide +kernel
theorem dX8_undo_44 : decode cX8_undo 44 = .ok (.ireturn, 1) := by decide +kernel
theorem dX8_save_0 : decode cX8_save 0 = .ok (.iload_n 1, 1) := by decide +kernel
theorem dX8_save_1 : decode cX8_save 1 = .ok (.iconst 0, 1) := by decide +kernel
theorem dX8_save_2 : decode cX8_save 2 = .ok (.iconst 1, 1) := by decide +kernel
theorem dX8_save_3 : decode cX8_save 3 = .ok (.invokestatic 36, 3) := by decide +kernel
theorem dX8_save_6 : decode cX8_save 6 = .ok (.ifCond .ne 6, 3) := by decide +kernel
theorem dX8_save_9 : decode cX8_save 9 = .ok (.bipush (-2), 2) := by decide +kernel
theorem dX8_save_11 : decode cX8_save 11 = .ok (.ireturn, 1) := by decide +kernel
theorem dX8_save_12 : decode cX8_save 12 = .ok (.aload_n 0, 1) := by decide +kernel
theorem dX8_save_13 : decode cX8_save 13 = .ok (.getfield 7, 3) := by decide +kernel
theorem dX8_save_16 : decode cX8_save 16 = .ok (.iconst 0, 1) := by decide +kernel
theorem dX8_save_17 : decode cX8_save 17 = .ok (.aload_n 0, 1) := by decide +kernel
theorem dX8_save_18 : decode cX8_save 18 = .ok (.getfield 16, 3) := by decide +kernel
theorem dX8_save_21 : decode cX8_save 21 = .ok (.sipush 844, 3) := by decide +kernel
theorem dX8_save_24 : decode cX8_save 24 = .ok (.iload_n 1, 1) := by decide +kernel
theorem dX8_save_25 : decode cX8_save 25 = .ok (.imul, 1) := by decide +kernel
theorem dX8_save_26 : decode cX8_save 26 = .ok (.invokestatic 32, 3) := by decide +kernel
theorem dX8_save_29 : decode cX8_save 29 = .ok (.aload_n 0, 1) := by decide +kernel
theorem dX8_save_30 : decode cX8_save 30 = .ok (.getfield 19, 3) := by decide +kernel
theorem dX8_save_33 : decode cX8_save 33 = .ok (.iload_n 1, 1) := by decide +kernel
theorem dX8_save_34 : decode cX8_save 34 = .ok (.iconst 1, 1) := by decide +kernel
theorem dX8_save_35 : decode cX8_save 35 = .ok (.iastore, 1) := by decide +kernel
theorem dX8_save_36 : decode cX8_save 36 = .ok (.aload_n 0, 1) := by decide +kernel
theorem dX8_save_37 : decode cX8_save 37 = .ok (.getfield 7, 3) := by decide +kernel
theorem dX8_save_40 : decode cX8_save 40 = .ok (.iconst 1, 1) := by decide +kernel
theorem dX8_save_41 : decode cX8_save 41 = .ok (.iaload, 1) := by decide +kernel
theorem dX8_save_42 : decode cX8_save 42 = .ok (.ireturn, 1) := by decide +kernel
theorem dX8_restore_0 : decode cX8_restore 0 = .ok (.iload_n 1, 1) := by decide +kernel
theorem dX8_restore_1 : decode cX8_restore 1 = .ok (.iconst 0, 1) := by decide +kernel
theorem dX8_restore_2 : decode cX8_restore 2 = .ok (.iconst 1, 1) := by decide +kernel
theorem dX8_restore_3 : decode cX8_restore 3 = .ok (.invokestatic 36, 3) := by decide +kernel
theorem dX8_restore_6 : decode cX8_restore 6 = .ok (.ifCond .ne 6, 3) := by decide +kernel
theorem dX8_restore_9 : decode cX8_restore 9 = .ok (.bipush (-2), 2) := by decide +kernel
theorem dX8_restore_11 : decode cX8_restore 11 = .ok (.ireturn, 1) := by decide +kernel
theorem dX8_restore_12 : decode cX8_restore 12 = .ok (.aload_n 0, 1) := by decide +kernel
theorem dX8_restore_13 : decode cX8_restore 13 = .ok (.getfield 19, 3) := by decide +kernel
theorem dX8_restore_16 : decode cX8_restore 16 = .ok (.iload_n 1, 1) := by decide +kernel
theorem dX8_restore_17 : decode cX8_restore 17 = .ok (.iaload, 1) := by decide +kernel
theorem dX8_restore_18 : decode cX8_restore 18 = .ok (.ifCond .ne 6, 3) := by decide +kernel
theorem dX8_restore_21 : decode cX8_restore 21 = .ok (.bipush (-5), 2) := by decide +kernel
theorem dX8_restore_23 : decode cX8_restore 23 = .ok (.ireturn, 1) := by decide +kernel
theorem dX8_restore_24 : decode cX8_restore 24 = .ok (.aload_n 0, 1) := by decide +kernel
theorem dX8_restore_25 : decode cX8_restore 25 = .ok (.invokevirtual 102, 3) := by decide +kernel
theorem dX8_restore_28 : decode cX8_restore 28 = .ok (.aload_n 0, 1) := by decide +kernel
theorem dX8_restore_29 : decode cX8_restore 29 = .ok (.getfield 16, 3) := by decide +kernel
theorem dX8_restore_32 : decode cX8_restore 32 = .ok (.sipush 844, 3) := by decide +kernel
theorem dX8_restore_35 : decode cX8_restore 35 = .ok (.iload_n 1, 1) := by decide +kernel
theorem dX8_restore_36 : decode cX8_restore 36 = .ok (.imul, 1) := by decide +kernel
theorem dX8_restore_37 : decode cX8_restore 37 = .ok (.aload_n 0, 1) := by decide +kernel
theorem dX8_restore_38 : decode cX8_restore 38 = .ok (.getfield 7, 3) := by decide +kernel
theorem dX8_restore_41 : decode cX8_restore 41 = .ok (.iconst 0, 1) := by decide +kernel
theorem dX8_restore_42 : decode cX8_restore 42 = .ok (.invokestatic 32, 3) := by decide +kernel
theorem dX8_restore_45 : decode cX8_restore 45 = .ok (.aload_n 0, 1) := by decide +kernel
theorem dX8_restore_46 : decode cX8_restore 46 = .ok (.getfield 7, 3) := by decide +kernel
theorem dX8_restore_49 : decode cX8_restore 49 = .ok (.iconst 1, 1) := by decide +kernel
theorem dX8_restore_50 : decode cX8_restore 50 = .ok (.iaload, 1) := by decide +kernel
theorem dX8_restore_51 : decode cX8_restore 51 = .ok (.ireturn, 1) := by decide +kernel
end
section
/-! the frame of all contracts: a world is a list of cells; a call takes some places of it and gives them back -/
def isNest : Cond → Bool
  | .fieldLinkNest _ _ _ _ _ _ => true
  | .methodLinkNest _ _ _ _ => true
  | _ => false
/-- the links to nest mates hold -/
def NW (U : State) : Prop := ∀ w ∈ nestL, va_Nw w U
theorem nest_isNest {w : Cond} (hw : w ∈ nestL) : isNest w = true := List.all_eq_true.mp (show nestL.all isNest = true from rfl) w hw
theorem isNest_tables {w : Cond} (h : isNest w = true) : w.onTables = true := by
  cases w <;> first | rfl | exact (Bool.false_ne_true h).elim
theorem NW.same {u U : State} (h : u.vm = U.vm) (hN : NW u) : NW U := fun w hw => va_Nw.same (isNest_tables (nest_isNest hw)) h (hN w hw)
theorem NW.warm {s U : State} (hW : s.WarmedH U.vm) (h : NW s) : NW U := by
  intro w hw
  have hz := h w hw
  have hn := nest_isNest hw
  cases w <;> first | exact va_Nw.warmF hW hz | exact va_Nw.warmM hW hz | exact (Bool.false_ne_true hn).elim
abbrev Kt (cyI cyO : ClassId) : List (ClassId × FieldType) := [(cyI, .int), (cyO, .object "HangingKeys$House")]
def KK (dC : Nat → ClassId) (dI : Nat → Nat → Nat) (cyI cyO : ClassId) (U : State) : Prop := va_K (dC, dI) vwCl (Kt cyI cyO) U ∧ NW U
theorem KK.warm {dC : Nat → ClassId} {dI : Nat → Nat → Nat} {cyI cyO : ClassId} {s U : State} (hW : s.WarmedH U.vm) (h : KK dC dI cyI cyO s) : KK dC dI cyI cyO U := ⟨va_K.moved hW.alike h.1, NW.warm hW h.2⟩
/-- a contract's start: the arguments, the heap's size, the world, the classes -/
def cP (dC : Nat → ClassId) (dI : Nat → Nat → Nat) (cyI cyO : ClassId) (sz : Nat) (av : List Value) (M : va_W) : Array Value → State → Prop :=
  va_Pc av (fun U => U.heap.size = sz ∧ va_P (dC, dI) vwCl M U.heap ∧ KK dC dI cyI cyO U ∧ va_D (fun _ => True) M)
/-- ends: an int, nothing, a reference -/
abbrev cI (dC : Nat → ClassId) (dI : Nat → Nat → Nat) (r : Int32) (M : va_W) (A : Nat → Prop) : Array Value → State → Outcome → State → Prop :=
  va_Qi (S := Unit) (fun r' _ => r' = r) (fun _ t => va_P (dC, dI) vwCl M t.heap) A
abbrev cV (dC : Nat → ClassId) (dI : Nat → Nat → Nat) (M : va_W) (A : Nat → Prop) : Array Value → State → Outcome → State → Prop :=
  va_Qv (S := Unit) (fun _ => True) (fun _ t => va_P (dC, dI) vwCl M t.heap) A
abbrev cQ (dC : Nat → ClassId) (dI : Nat → Nat → Nat) (r : Option Nat) (M : va_W) (A : Nat → Prop) : Array Value → State → Outcome → State → Prop :=
  va_Qq (S := Unit) (fun r' _ => r' = r) (fun _ t => va_P (dC, dI) vwCl M t.heap) A
theorem cP_blind {dC : Nat → ClassId} {dI : Nat → Nat → Nat} {cyI cyO : ClassId} {sz : Nat} {av : List Value} {M : va_W} : FrameBlind (cP dC dI cyI cyO sz av M) := by
  intro a U g mk q
  obtain ⟨q0, q1, qP, qK, qD⟩ := q
  exact ⟨q0, q1, qP, ⟨va_K.moved (u := U) (U := U.calling g mk a) (Vm.Alike.refl U.vm) qK.1, NW.same (u := U) (U := U.calling g mk a) rfl qK.2⟩, qD⟩
theorem va_P_places {D : va_G} {cl : List vw_C} {L M : va_W} {H : Heap} (hP : va_P D cl L H) (is : List Nat) (hC : is.map (fun i => L[i]?) = M.map some) : va_P D cl M H := by
  intro k q hq
  have h1 : (is.map (fun i => L[i]?))[k]? = some (some q) := by rw [hC, List.getElem?_map, hq]; rfl
  rw [List.getElem?_map] at h1
  cases hi : is[k]? with
  | none => rw [hi] at h1; cases h1
  | some i => rw [hi] at h1; exact hP i q (Option.some.inj h1)
theorem va_at_places {L M : va_W} {is : List Nat} (hC : is.map (fun i => L[i]?) = M.map some) {k : Nat} {q : Nat × va_E} (hq : M[k]? = some q) : ∃ i, is[k]? = some i ∧ L[i]? = some q := by
  have h1 : (is.map (fun i => L[i]?))[k]? = some (some q) := by rw [hC, List.getElem?_map, hq]; rfl
  rw [List.getElem?_map] at h1
  cases hi : is[k]? with
  | none => rw [hi] at h1; cases h1
  | some i => rw [hi] at h1; exact ⟨i, rfl, Option.some.inj h1⟩
theorem cP_S {dC : Nat → ClassId} {dI : Nat → Nat → Nat} {cyI cyO : ClassId} {s : State} {H : Heap} {L M : va_W} {A : Nat → Prop} {As : List Value} (hK : KK dC dI cyI cyO s) (hP : va_P (dC, dI) vwCl L H) (hD : va_D A L) (is : List Nat) (hn : va_nd is = true) (hC : is.map (fun i => L[i]?) = M.map some) : PreS s H (cP dC dI cyI cyO H.size As M) As :=
  ⟨cP_blind, fun U hU hW => ⟨rfl, by rw [hU], by rw [hU]; exact va_P_places hP is hC, hK.warm hW, (hD.sub is hn hC).weaken (fun _ _ _ _ => trivial)⟩⟩
theorem cP_V {dC : Nat → ClassId} {dI : Nat → Nat → Nat} {cyI cyO : ClassId} {s : State} {H : Heap} {L M : va_W} {A : Nat → Prop} {As : List Value} {C : String} {T : u_T} {N b ci : Nat} {fs : List Value} (hK : KK dC dI cyI cyO s) (hP : va_P (dC, dI) vwCl L H) (hD : va_D A L) (is : List Nat) (hn : va_nd is = true) (hC : is.map (fun i => L[i]?) = M.map some) (q0 : Nat) (he : L[q0]? = some (b, .inr (ci, fs))) (hc : vwCl[ci]? = some (C, T, N)) : PreV s H C b (cP dC dI cyI cyO H.size (.ref b :: As) M) As :=
  ⟨cP_blind, va_recv hK.1 hP hc he, fun U hU hW => ⟨rfl, by rw [hU], by rw [hU]; exact va_P_places hP is hC, hK.warm hW, (hD.sub is hn hC).weaken (fun _ _ _ _ => trivial)⟩⟩
/-- a world with some places written anew -/
def putW : va_W → List Nat → va_W → va_W
  | L, i :: is, x :: xs => putW (L.set i x) is xs
  | L, _, _ => L
theorem putW_get : ∀ (is : List Nat) (xs L : va_W) (i : Nat) (q : Nat × va_E), is.length = xs.length → (putW L is xs)[i]? = some q → q ∈ xs ∨ (L[i]? = some q ∧ i ∉ is)
  | [], [], L, i, q, _, h => Or.inr ⟨h, List.not_mem_nil⟩
  | [], _ :: _, _, _, _, hl, _ => by cases hl
  | _ :: _, [], _, _, _, hl, _ => by cases hl
  | j :: is, x :: xs, L, i, q, hl, h => by
    rcases putW_get is xs (L.set j x) i q (Nat.succ.inj hl) h with h1 | ⟨h1, h2⟩
    · exact Or.inl (List.mem_cons_of_mem _ h1)
    · by_cases hij : j = i
      · subst hij
        rw [List.getElem?_set] at h1
        simp only [if_true] at h1
        split at h1
        · cases h1; exact Or.inl List.mem_cons_self
        · cases h1
      · rw [List.getElem?_set_ne hij] at h1
        exact Or.inr ⟨h1, by intro hm; rcases List.mem_cons.mp hm with e | e; exact hij e.symm; exact h2 e⟩
theorem va_D_ads {A : Nat → Prop} {L L' : va_W} (h : L'.map (·.1) = L.map (·.1)) (hD : va_D A L) : va_D A L' := by
  have key : ∀ (i : Nat) (q : Nat × va_E), L'[i]? = some q → ∃ p, L[i]? = some p ∧ p.1 = q.1 := by
    intro i q hq
    have h1 : (L'.map (·.1))[i]? = some q.1 := by rw [List.getElem?_map, hq]; rfl
    rw [h, List.getElem?_map] at h1
    cases hp : L[i]? with
    | none => rw [hp] at h1; cases h1
    | some p => rw [hp] at h1; exact ⟨p, rfl, Option.some.inj h1⟩
  refine ⟨fun i j p q hp hq hpq => ?_, fun k q hq => ?_⟩
  · obtain ⟨p', h1, h2⟩ := key i p hp
    obtain ⟨q', h3, h4⟩ := key j q hq
    exact hD.1 i j p' q' h1 h3 (by rw [h2, h4, hpq])
  · obtain ⟨p', h1, h2⟩ := key k q hq
    rw [← h2]
    exact hD.2 k p' h1
theorem join_put {A0 : Nat → Prop} {D : va_G} {cl : List vw_C} {L M M' : va_W} {H H1 : Heap} (hP : va_P D cl L H) (hD : va_D A0 L) (is : List Nat) (hC : is.map (fun i => L[i]?) = M.map some) (hl : is.length = M'.length)
    (hk : ∀ q : Nat, q < H.size → ¬ va_A M H.size q → H1[q]? = H[q]?) (hP1 : va_P D cl M' H1) : va_P D cl (putW L is M') H1 := by
  intro i q hq
  rcases putW_get is M' L i q hl hq with h1 | ⟨h1, h2⟩
  · obtain ⟨k, hk1⟩ := List.getElem?_of_mem h1
    exact hP1 k q hk1
  · have hlt := (hP i q h1).lt
    refine (hP i q h1).kept (hk q.1 hlt ?_)
    intro hA
    rcases hA with ⟨k, e, hke⟩ | hA
    · obtain ⟨j, h3, h4⟩ := va_at_places hC hke
      have hij := hD.1 i j q (q.1, e) h1 h4 rfl
      subst hij
      exact h2 (List.mem_of_getElem? h3)
    · omega
theorem free_put {A0 : Nat → Prop} {L M : va_W} {H0 H : Heap} {locs : List Loc} (hD : va_D A0 L) (hS : va_S A0 H0 H locs) (hA : ∀ q, H0.size ≤ q → A0 q) (is : List Nat) (hC : is.map (fun i => L[i]?) = M.map some) : ∀ q, va_A M H.size q → A0 q := va_free hD hS hA is hC
section FR
variable {p : Program} {l : Launch} {e : Env} {R : Room} {s : State} {m : MethodId} {args : Array Value} {below : List Frame} {meth : Method} {c : Code} {H : Heap} {locs : List Loc} {cells slots : Nat} {Q : State → Prop}
variable {pc : Nat} {ls : Array Slot} {rest st0 : List Value} {a : Array Value} {A0 : Nat → Prop} {H0 : Heap} {dC : Nat → ClassId} {dI : Nat → Nat → Nat} {L M M' : va_W}
/-- behind a call that answers an int; its world was the places is of L -/
theorem fr_i {r : Int32} (hr : va_Run p l e R s m args below meth c H locs cells slots 0 0 (F0 m pc ls st0) rest (cI dC dI r M' (va_A M H.size) a) (va_A M H.size)) (hP : va_P (dC, dI) vwCl L H) (hD : va_D A0 L) (hS : va_S A0 H0 H locs) (hA : ∀ q, H0.size ≤ q → A0 q) (is : List Nat) (hC : is.map (fun i => L[i]?) = M.map some) (hl : is.length = M'.length) (hadr : (putW L is M').map (·.1) = L.map (·.1))
    (kk : ∀ (H1 : Heap) (locs1 : List Loc), va_P (dC, dI) vwCl (putW L is M') H1 → va_D A0 (putW L is M') → va_S A0 H0 H1 locs1 → W p l e R s m args below meth c H1 locs1 cells slots Q (F0 m (pc + 3) ls (.int r :: rest))) : W p l e R s m args below meth c H locs cells slots Q (F0 m pc ls st0) := by
  have hF := free_put hD hS hA is hC
  refine va_calli hr hS (fun q _ h => hF q h) hF (fun r1 u t H1 locs1 ht hvm hw hB hz hk hS1 => ?_)
  subst hw
  subst ht
  exact kk _ _ (join_put hP hD is hC hl hk hB) (va_D_ads hadr hD) hS1
theorem fr_v (hr : va_Run p l e R s m args below meth c H locs cells slots 0 0 (F0 m pc ls st0) rest (cV dC dI M' (va_A M H.size) a) (va_A M H.size)) (hP : va_P (dC, dI) vwCl L H) (hD : va_D A0 L) (hS : va_S A0 H0 H locs) (hA : ∀ q, H0.size ≤ q → A0 q) (is : List Nat) (hC : is.map (fun i => L[i]?) = M.map some) (hl : is.length = M'.length) (hadr : (putW L is M').map (·.1) = L.map (·.1))
    (kk : ∀ (H1 : Heap) (locs1 : List Loc), va_P (dC, dI) vwCl (putW L is M') H1 → va_D A0 (putW L is M') → va_S A0 H0 H1 locs1 → W p l e R s m args below meth c H1 locs1 cells slots Q (F0 m (pc + 3) ls rest)) : W p l e R s m args below meth c H locs cells slots Q (F0 m pc ls st0) := by
  have hF := free_put hD hS hA is hC
  refine va_callv hr hS (fun q _ h => hF q h) hF (fun u t H1 locs1 ht hvm hw hB hz hk hS1 => ?_)
  subst ht
  exact kk _ _ (join_put hP hD is hC hl hk hB) (va_D_ads hadr hD) hS1
theorem join_ro {A0 : Nat → Prop} {D : va_G} {cl : List vw_C} {L M : va_W} {H H1 : Heap} (hP : va_P D cl L H) (hD : va_D A0 L) (is : List Nat) (hC : is.map (fun i => L[i]?) = M.map some)
    (hk : ∀ q : Nat, q < H.size → ¬ va_A M H.size q → H1[q]? = H[q]?) (hP1 : va_P D cl M H1) : va_P D cl L H1 := by
  intro i q hq
  by_cases h : ∃ (k : Nat) (e : va_E), M[k]? = some (q.1, e)
  · obtain ⟨k, e, hke⟩ := h
    obtain ⟨j, h3, h4⟩ := va_at_places hC hke
    have hij := hD.1 i j q (q.1, e) hq h4 rfl
    subst hij
    rw [hq] at h4
    have h5 := hP1 k _ hke
    rw [← Option.some.inj h4] at h5
    exact h5
  · have hlt := (hP i q hq).lt
    exact (hP i q hq).kept (hk q.1 hlt (fun hA => hA.elim h (fun hA => by omega)))
/-- the same, of a callee that writes nothing -/
theorem fr_ir {r : Int32} (hr : va_Run p l e R s m args below meth c H locs cells slots 0 0 (F0 m pc ls st0) rest (cI dC dI r M (va_A M H.size) a) (va_A M H.size)) (hP : va_P (dC, dI) vwCl L H) (hD : va_D A0 L) (hS : va_S A0 H0 H locs) (hA : ∀ q, H0.size ≤ q → A0 q) (is : List Nat) (hC : is.map (fun i => L[i]?) = M.map some)
    (kk : ∀ (H1 : Heap) (locs1 : List Loc), va_P (dC, dI) vwCl L H1 → va_S A0 H0 H1 locs1 → W p l e R s m args below meth c H1 locs1 cells slots Q (F0 m (pc + 3) ls (.int r :: rest))) : W p l e R s m args below meth c H locs cells slots Q (F0 m pc ls st0) := by
  have hF := free_put hD hS hA is hC
  refine va_calli hr hS (fun q _ h => hF q h) hF (fun r1 u t H1 locs1 ht hvm hw hB hz hk hS1 => ?_)
  subst hw
  subst ht
  exact kk _ _ (join_ro hP hD is hC hk hB) hS1
/-- ends -/
theorem e_i {cc : ByteArray} {A : Nat → Prop} {v : Int32} (hx : p.tables.exec = Jvm.exec) (hb : c.code = cc) (hr : meth.sig.returnType = some .int) (hlocks : meth.locks = false) (hP : va_P (dC, dI) vwCl M H) (hS : va_S A s.heap H locs) (hdg : decode cc pc = .ok (.ireturn, 1)) : W p l e R s m args below meth c H locs cells slots (MQ below (cI dC dI v M A) args s cells slots A) (F0 m pc ls [.int v]) :=
  W.iret hx hb hr (fun t ht hW => ⟨⟨v, (), rfl, rfl, by subst ht; exact hP⟩, hS.F ht⟩) hS.2.2 hdg hlocks
theorem e_z {cc : ByteArray} {A : Nat → Prop} {v : Int32} (hx : p.tables.exec = Jvm.exec) (hb : c.code = cc) (hr : meth.sig.returnType = some .boolean) (hlocks : meth.locks = false) (hn : narrow .boolean (.int v) = .int v) (hP : va_P (dC, dI) vwCl M H) (hS : va_S A s.heap H locs) (hdg : decode cc pc = .ok (.ireturn, 1)) : W p l e R s m args below meth c H locs cells slots (MQ below (cI dC dI v M A) args s cells slots A) (F0 m pc ls [.int v]) :=
  W.zret hx hb hr hn (fun t ht hW => ⟨⟨v, (), rfl, rfl, by subst ht; exact hP⟩, hS.F ht⟩) hS.2.2 hdg hlocks
theorem e_v {cc : ByteArray} {A : Nat → Prop} (hx : p.tables.exec = Jvm.exec) (hb : c.code = cc) (hr : meth.sig.returnType = none) (hlocks : meth.locks = false) (hP : va_P (dC, dI) vwCl M H) (hS : va_S A s.heap H locs) (hdg : decode cc pc = .ok (.return_, 1)) : W p l e R s m args below meth c H locs cells slots (MQ below (cV dC dI M A) args s cells slots A) (F0 m pc ls []) :=
  W.vret hx hb hr (fun t ht hW => ⟨⟨(), rfl, trivial, by subst ht; exact hP⟩, hS.F ht⟩) hS.2.2 hdg hlocks
end FR
-- the words of a method: its code, and all that a call hands on
noncomputable abbrev wsG (y : MethodName) (b : ByteArray) (n : Nat) (r : Option FieldType) : List Cond := Cond.code y b n r :: GB
theorem gb_mem {c0 w : Cond} (h : w ∈ GB) : w ∈ c0 :: GB := List.mem_cons_of_mem _ h
theorem goodGB {c0 : Cond} : ∀ w ∈ GB, w ∈ c0 :: GB ∧ ((w.onTables && w.keeps) = true ∨ ∃ ty, w = .arrayClass ty) := fun _ h => ⟨gb_mem h, gb_good h⟩
/-- a callee's words among a caller's -/
theorem gW {c0 : Cond} {y : MethodName} {b : ByteArray} {n : Nat} {r : Option FieldType} (hc : Cond.code y b n r ∈ GB) : GoodIn (c0 :: GB) (wsG y b n r) := by
  intro w hw
  rcases List.mem_cons.mp hw with rfl | hw
  · exact goodGB _ hc
  · exact goodGB _ hw
theorem gV {c0 : Cond} {own : String} {idx : Nat} {C : String} {y : MethodName} {b : ByteArray} {n : Nat} {r : Option FieldType} (h1 : Cond.methodLink own idx y ∈ GB) (h2 : Cond.instanceMethod y ∈ GB) (h3 : Cond.selects C y y ∈ GB) (h4 : Cond.initialized C ∈ GB) (hc : Cond.code y b n r ∈ GB) : GoodIn (c0 :: GB) (wsV own idx C y (wsG y b n r)) := by
  intro w hw
  rcases List.mem_append.mp hw with hw | hw
  · simp only [List.mem_cons, List.not_mem_nil, or_false] at hw
    rcases hw with rfl | rfl | rfl | rfl
    · exact goodGB _ h1
    · exact goodGB _ h2
    · exact goodGB _ h3
    · exact goodGB _ h4
  · exact gW hc w hw
theorem gS {c0 : Cond} {own : String} {idx : Nat} {y : MethodName} {b : ByteArray} {n : Nat} {r : Option FieldType} (h1 : Cond.methodLink own idx y ∈ GB) (h2 : Cond.static y ∈ GB) (h4 : Cond.initialized y.cls ∈ GB) (hc : Cond.code y b n r ∈ GB) : GoodIn (c0 :: GB) (va_wsS own idx y (wsG y b n r)) := by
  intro w hw
  rcases List.mem_append.mp hw with hw | hw
  · simp only [List.mem_cons, List.not_mem_nil, or_false] at hw
    rcases hw with rfl | rfl | rfl
    · exact goodGB _ h1
    · exact goodGB _ h2
    · exact goodGB _ h4
  · exact gW hc w hw
theorem ob {α β : Type} {o : Option α} {f : α → Option β} {r : β} (h : o.bind f = some r) : ∃ a, o = some a ∧ f a = some r := by
  cases o with
  | none => cases h
  | some a => exact ⟨a, rfl, h⟩
theorem ifn {c : Prop} [d : Decidable c] {β : Type} {E : Option β} {r : β} (h : (if c then none else E) = some r) : ¬ c ∧ E = some r := by
  by_cases hc : c
  · rw [if_pos hc] at h; cases h
  · rw [if_neg hc] at h; exact ⟨hc, h⟩
end
section
/-! the worlds: lists of cells -/
abbrev rowW (cy : ClassId) (a0 a1 n : Nat) (f : Nat → Int32) : va_W := [(a0, .inr (4, [.ref a1])), (a1, .inl (cy, (n, .inl f)))]
abbrev arrW (cy : ClassId) (a0 n : Nat) (f : Nat → Int32) : va_W := [(a0, .inl (cy, (n, .inl f)))]
def treeW (cy : ClassId) (t0 t1 t2 t3 t4 t5 t6 t7 t8 : Nat) (mostWear : Int32) (keys : Int32) (boxes : Int32) (liveKeys : Int32) (liveBoxes : Int32) (parents : Nat → Int32) (makes : Nat → Int32) (wears : Nat → Int32) (keysOfBoxes : Nat → Int32) : va_W := [(t0, .inr (5, [.int mostWear, .int keys, .int boxes, .int liveKeys, .int liveBoxes, .ref t1, .ref t3, .ref t5, .ref t7])), (t1, .inr (4, [.ref t2])), (t2, .inl (cy, (20, .inl parents))), (t3, .inr (4, [.ref t4])), (t4, .inl (cy, (20, .inl makes))), (t5, .inr (4, [.ref t6])), (t6, .inl (cy, (20, .inl wears))), (t7, .inr (4, [.ref t8])), (t8, .inl (cy, (20, .inl keysOfBoxes)))]
def wrapsW (cy : ClassId) (w0 w1 w2 w3 w4 w5 w6 w7 w8 w9 w10 : Nat) (number : Int32) (heldKeys : Nat → Int32) (heldWhats : Nat → Int32) (closers : Nat → Int32) (closerMakes : Nat → Int32) (stands : Nat → Int32) : va_W := [(w0, .inr (6, [.int number, .ref w1, .ref w3, .ref w5, .ref w7, .ref w9])), (w1, .inr (4, [.ref w2])), (w2, .inl (cy, (120, .inl heldKeys))), (w3, .inr (4, [.ref w4])), (w4, .inl (cy, (120, .inl heldWhats))), (w5, .inr (4, [.ref w6])), (w6, .inl (cy, (120, .inl closers))), (w7, .inr (4, [.ref w8])), (w8, .inl (cy, (120, .inl closerMakes))), (w9, .inr (4, [.ref w10])), (w10, .inl (cy, (120, .inl stands)))]
def openW (cy : ClassId) (o0 o1 o2 o3 o4 : Nat) (startMakes : Nat → Int32) (opened : Nat → Int32) : va_W := [(o0, .inr (2, [.ref o1, .ref o3])), (o1, .inr (4, [.ref o2])), (o2, .inl (cy, (20, .inl startMakes))), (o3, .inr (4, [.ref o4])), (o4, .inl (cy, (120, .inl opened)))]
def padW (cy : ClassId) (p0 p1 p2 : Nat) (signs : Nat → Int32) (length : Int32) (next : Int32) (letter : Int32) (target : Int32) (place : Int32) : va_W := [(p0, .inr (3, [.ref p1, .int length, .int next, .int letter, .int target, .int place])), (p1, .inr (4, [.ref p2])), (p2, .inl (cy, (60, .inl signs)))]
def modelW (cy : ClassId) (m0 m1 m2 m3 m4 m5 m6 : Nat) (state : Nat → Int32) (history : Nat → Int32) (recorded : Int32) (slots : Nat → Int32) (isSaved : Nat → Int32) (pad : Nat → Int32) (padLength : Int32) (opened : Nat → Int32) (pos : Int32) (letter : Int32) (first : Int32) (second : Int32) : va_W := [(m0, .inr (8, [.ref m1, .ref m2, .int recorded, .ref m3, .ref m4, .ref m5, .int padLength, .ref m6, .int pos, .int letter, .int first, .int second])), (m1, .inl (cy, (844, .inl state))), (m2, .inl (cy, (5064, .inl history))), (m3, .inl (cy, (1688, .inl slots))), (m4, .inl (cy, (2, .inl isSaved))), (m5, .inl (cy, (60, .inl pad))), (m6, .inl (cy, (120, .inl opened)))]
def houseW (cy : ClassId) (h0 t0 t1 t2 t3 t4 t5 t6 t7 t8 w0 w1 w2 w3 w4 w5 w6 w7 w8 w9 w10 : Nat) (mostWear : Int32) (keys : Int32) (boxes : Int32) (liveKeys : Int32) (liveBoxes : Int32) (parents : Nat → Int32) (makes : Nat → Int32) (wears : Nat → Int32) (keysOfBoxes : Nat → Int32) (number : Int32) (heldKeys : Nat → Int32) (heldWhats : Nat → Int32) (closers : Nat → Int32) (closerMakes : Nat → Int32) (stands : Nat → Int32) : va_W := [(h0, .inr (1, [.ref t0, .ref w0])), (t0, .inr (5, [.int mostWear, .int keys, .int boxes, .int liveKeys, .int liveBoxes, .ref t1, .ref t3, .ref t5, .ref t7])), (t1, .inr (4, [.ref t2])), (t2, .inl (cy, (20, .inl parents))), (t3, .inr (4, [.ref t4])), (t4, .inl (cy, (20, .inl makes))), (t5, .inr (4, [.ref t6])), (t6, .inl (cy, (20, .inl wears))), (t7, .inr (4, [.ref t8])), (t8, .inl (cy, (20, .inl keysOfBoxes))), (w0, .inr (6, [.int number, .ref w1, .ref w3, .ref w5, .ref w7, .ref w9])), (w1, .inr (4, [.ref w2])), (w2, .inl (cy, (120, .inl heldKeys))), (w3, .inr (4, [.ref w4])), (w4, .inl (cy, (120, .inl heldWhats))), (w5, .inr (4, [.ref w6])), (w6, .inl (cy, (120, .inl closers))), (w7, .inr (4, [.ref w8])), (w8, .inl (cy, (120, .inl closerMakes))), (w9, .inr (4, [.ref w10])), (w10, .inl (cy, (120, .inl stands)))]
def iushr (x y : Int32) : Int32 := (x.toUInt32 >>> (y.toUInt32 &&& Int32.toUInt32 31)).toInt32
def lushr (x : Int64) (y : Int32) : Int64 := (x.toUInt64 >>> (y.toInt64.toUInt64 &&& Int64.toUInt64 63)).toInt64
/-- rows of numbers: what is read and written -/
def rAt (n : Nat) (f : Nat → Int32) (i : Int32) : Int32 := if i < 0 then 0 else if nI n ≤ i then 0 else f i.toNatClampNeg
def rSet (n : Nat) (f : Nat → Int32) (i v : Int32) : Nat → Int32 := if i < 0 then f else if nI n ≤ i then f else upd f i.toNatClampNeg v
def rAdd (n : Nat) (f : Nat → Int32) (i v : Int32) : Nat → Int32 := if i < 0 then f else if nI n ≤ i then f else upd f i.toNatClampNeg (f i.toNatClampNeg + v)

noncomputable def fX7_oneIf (x0 : Int32) : Int32 :=
  (if x0 = 0 then (0) else (1))
set_option maxHeartbeats 4000000 in
set_option maxRecDepth 100000 in
theorem mX7_oneIf (l : Launch) (dC : Nat → ClassId) (dI : Nat → Nat → Nat) (cyI cyO : ClassId)   (x0 : Int32) (sz : Nat) (res : Int32) (h : fX7_oneIf x0 = res) : Met l yX7_oneIf (wsG yX7_oneIf cX7_oneIf 1 (some .int)) ({ frames := 0, cells := 0, slots := 0, locals := 0 }) (cP dC dI cyI cyO sz [.int x0] ([] : va_W)) (cI dC dI res ([] : va_W) (va_A ([] : va_W) sz)) 0 0 (va_A ([] : va_W) sz) := by
  refine Met.ofW (cc := cX7_oneIf) (maxL := 1) (ret := (some .int)) (by decide) rfl ?_
  intro p e s m args below meth c s₁ B hml hv
  obtain ⟨rfl, hsz, hP, hK, hD0⟩ := hv
  have hx := B.exec
  have hb := B.bytes
  have hr := B.returns
  have hts := atoms_spec (ws := wsG yX7_oneIf cX7_oneIf 1 (some .int)) B.pre
  have hown : s.vm.findClass RX7 = some m.cls := findClass_of_methodNamed B.named
  have hlocks := B.notSynchronized
  subst hsz
  have hD := hD0.self (sz := s.heap.size)
  generalize hAe : va_A ([] : va_W) s.heap.size = A at hD ⊢
  have hA : ∀ q : Nat, s.heap.size ≤ q → A q := fun q h => by rw [← hAe]; exact Or.inr h
  have hS : va_S A s.heap s.heap [] := va_S.rf
  have hl := lv_entry ([.int x0]) (n := 1) (Nat.le_of_ble_eq_true rfl)
  rw [lg_entry_eq]
  generalize (lg_sl ([.int x0]) ++ List.replicate (1 - (lg_sl ([.int x0])).length) Slot.unset).toArray = ls at hl ⊢
  have hl : lv_has ls 1 [(0, .int x0)] := hl
  unfold fX7_oneIf at h
  refine lv_iload_n hx hb dX7_oneIf_0 rfl (lv_at hl 0 rfl) ?_
  refine lv_if_eq (tgt := 8) hx hb dX7_oneIf_1 (by decide) (fun c1 => ?_) (fun c1 => ?_)
  · have h := (if_pos c1).symm.trans h
    refine lv_iconst (v := 0) hx hb dX7_oneIf_8 (by decide) ?_
    obtain rfl := h
    exact e_i hx hb hr hlocks hP hS dX7_oneIf_9
  · have h := (if_neg c1).symm.trans h
    refine lv_iconst (v := 1) hx hb dX7_oneIf_4 (by decide) ?_
    refine lv_goto (tgt := 9) hx hb dX7_oneIf_5 (by decide) ?_
    obtain rfl := h
    exact e_i hx hb hr hlocks hP hS dX7_oneIf_9

noncomputable def fX7_setOf (x0 : Int32) : Int32 :=
  (if x0 < 0 then (0) else (if 32 ≤ x0 then (0) else ((1 <<< (x0 &&& 31)))))
set_option maxHeartbeats 4000000 in
set_option maxRecDepth 100000 in
theorem mX7_setOf (l : Launch) (dC : Nat → ClassId) (dI : Nat → Nat → Nat) (cyI cyO : ClassId)   (x0 : Int32) (sz : Nat) (res : Int32) (h : fX7_setOf x0 = res) : Met l yX7_setOf (wsG yX7_setOf cX7_setOf 1 (some .int)) ({ frames := 0, cells := 0, slots := 0, locals := 0 }) (cP dC dI cyI cyO sz [.int x0] ([] : va_W)) (cI dC dI res ([] : va_W) (va_A ([] : va_W) sz)) 0 0 (va_A ([] : va_W) sz) := by
  refine Met.ofW (cc := cX7_setOf) (maxL := 1) (ret := (some .int)) (by decide) rfl ?_
  intro p e s m args below meth c s₁ B hml hv
  obtain ⟨rfl, hsz, hP, hK, hD0⟩ := hv
  have hx := B.exec
  have hb := B.bytes
  have hr := B.returns
  have hts := atoms_spec (ws := wsG yX7_setOf cX7_setOf 1 (some .int)) B.pre
  have hown : s.vm.findClass RX7 = some m.cls := findClass_of_methodNamed B.named
  have hlocks := B.notSynchronized
  subst hsz
  have hD := hD0.self (sz := s.heap.size)
  generalize hAe : va_A ([] : va_W) s.heap.size = A at hD ⊢
  have hA : ∀ q : Nat, s.heap.size ≤ q → A q := fun q h => by rw [← hAe]; exact Or.inr h
  have hS : va_S A s.heap s.heap [] := va_S.rf
  have hl := lv_entry ([.int x0]) (n := 1) (Nat.le_of_ble_eq_true rfl)
  rw [lg_entry_eq]
  generalize (lg_sl ([.int x0]) ++ List.replicate (1 - (lg_sl ([.int x0])).length) Slot.unset).toArray = ls at hl ⊢
  have hl : lv_has ls 1 [(0, .int x0)] := hl
  unfold fX7_setOf at h
  refine lv_iload_n hx hb dX7_setOf_0 rfl (lv_at hl 0 rfl) ?_
  refine lv_if_lt (tgt := 16) hx hb dX7_setOf_1 (by decide) (fun c1 => ?_) (fun c1 => ?_)
  · have h := (if_pos c1).symm.trans h
    refine lv_iconst (v := 0) hx hb dX7_setOf_16 (by decide) ?_
    obtain rfl := h
    exact e_i hx hb hr hlocks hP hS dX7_setOf_17
  · have h := (if_neg c1).symm.trans h
    refine lv_iload_n hx hb dX7_setOf_4 rfl (lv_at hl 0 rfl) ?_
    refine lv_bipush (v := 32) hx hb dX7_setOf_5 (by decide) ?_
    refine lv_icmp_ge (tgt := 16) hx hb dX7_setOf_7 (by decide) (fun c2 => ?_) (fun c2 => ?_)
    · have h := (if_pos c2).symm.trans h
      refine lv_iconst (v := 0) hx hb dX7_setOf_16 (by decide) ?_
      obtain rfl := h
      exact e_i hx hb hr hlocks hP hS dX7_setOf_17
    · have h := (if_neg c2).symm.trans h
      refine lv_iconst (v := 1) hx hb dX7_setOf_10 (by decide) ?_
      refine lv_iload_n hx hb dX7_setOf_11 rfl (lv_at hl 0 rfl) ?_
      refine lv_ishl hx hb dX7_setOf_12 ?_
      refine lv_goto (tgt := 17) hx hb dX7_setOf_13 (by decide) ?_
      obtain rfl := h
      exact e_i hx hb hr hlocks hP hS dX7_setOf_17

noncomputable def fX7_has (x0 : Int32) (x1 : Int32) : Int32 :=
  (if x1 < 0 then (0) else (if 32 ≤ x1 then (0) else (if ((iushr x0 x1) &&& 1) = 0 then (0) else (1))))
set_option maxHeartbeats 4000000 in
set_option maxRecDepth 100000 in
theorem mX7_has (l : Launch) (dC : Nat → ClassId) (dI : Nat → Nat → Nat) (cyI cyO : ClassId)   (x0 : Int32) (x1 : Int32) (sz : Nat) (res : Int32) (h : fX7_has x0 x1 = res) : Met l yX7_has (wsG yX7_has cX7_has 2 (some .boolean)) ({ frames := 0, cells := 0, slots := 0, locals := 0 }) (cP dC dI cyI cyO sz [.int x0, .int x1] ([] : va_W)) (cI dC dI res ([] : va_W) (va_A ([] : va_W) sz)) 0 0 (va_A ([] : va_W) sz) := by
  refine Met.ofW (cc := cX7_has) (maxL := 2) (ret := (some .boolean)) (by decide) rfl ?_
  intro p e s m args below meth c s₁ B hml hv
  obtain ⟨rfl, hsz, hP, hK, hD0⟩ := hv
  have hx := B.exec
  have hb := B.bytes
  have hr := B.returns
  have hts := atoms_spec (ws := wsG yX7_has cX7_has 2 (some .boolean)) B.pre
  have hown : s.vm.findClass RX7 = some m.cls := findClass_of_methodNamed B.named
  have hlocks := B.notSynchronized
  subst hsz
  have hD := hD0.self (sz := s.heap.size)
  generalize hAe : va_A ([] : va_W) s.heap.size = A at hD ⊢
  have hA : ∀ q : Nat, s.heap.size ≤ q → A q := fun q h => by rw [← hAe]; exact Or.inr h
  have hS : va_S A s.heap s.heap [] := va_S.rf
  have hl := lv_entry ([.int x0, .int x1]) (n := 2) (Nat.le_of_ble_eq_true rfl)
  rw [lg_entry_eq]
  generalize (lg_sl ([.int x0, .int x1]) ++ List.replicate (2 - (lg_sl ([.int x0, .int x1])).length) Slot.unset).toArray = ls at hl ⊢
  have hl : lv_has ls 2 [(0, .int x0), (1, .int x1)] := hl
  unfold fX7_has at h
  refine lv_iload_n hx hb dX7_has_0 rfl (lv_at hl 1 rfl) ?_
  refine lv_if_lt (tgt := 22) hx hb dX7_has_1 (by decide) (fun c1 => ?_) (fun c1 => ?_)
  · have h := (if_pos c1).symm.trans h
    refine lv_iconst (v := 0) hx hb dX7_has_22 (by decide) ?_
    obtain rfl := h
    exact e_z hx hb hr hlocks rfl hP hS dX7_has_23
  · have h := (if_neg c1).symm.trans h
    refine lv_iload_n hx hb dX7_has_4 rfl (lv_at hl 1 rfl) ?_
    refine lv_bipush (v := 32) hx hb dX7_has_5 (by decide) ?_
    refine lv_icmp_ge (tgt := 22) hx hb dX7_has_7 (by decide) (fun c2 => ?_) (fun c2 => ?_)
    · have h := (if_pos c2).symm.trans h
      refine lv_iconst (v := 0) hx hb dX7_has_22 (by decide) ?_
      obtain rfl := h
      exact e_z hx hb hr hlocks rfl hP hS dX7_has_23
    · have h := (if_neg c2).symm.trans h
      refine lv_iload_n hx hb dX7_has_10 rfl (lv_at hl 0 rfl) ?_
      refine lv_iload_n hx hb dX7_has_11 rfl (lv_at hl 1 rfl) ?_
      refine lv_iushr (v := (iushr x0 x1)) hx hb dX7_has_12 rfl ?_
      refine lv_iconst (v := 1) hx hb dX7_has_13 (by decide) ?_
      refine lv_iand hx hb dX7_has_14 ?_
      refine lv_if_eq (tgt := 22) hx hb dX7_has_15 (by decide) (fun c3 => ?_) (fun c3 => ?_)
      · have h := (if_pos c3).symm.trans h
        refine lv_iconst (v := 0) hx hb dX7_has_22 (by decide) ?_
        obtain rfl := h
        exact e_z hx hb hr hlocks rfl hP hS dX7_has_23
      · have h := (if_neg c3).symm.trans h
        refine lv_iconst (v := 1) hx hb dX7_has_18 (by decide) ?_
        refine lv_goto (tgt := 23) hx hb dX7_has_19 (by decide) ?_
        obtain rfl := h
        exact e_z hx hb hr hlocks rfl hP hS dX7_has_23
theorem nb_X7_has  (x0 : Int32) (x1 : Int32) : narrow .boolean (.int (fX7_has x0 x1)) = .int (fX7_has x0 x1) := by
  unfold fX7_has
  repeat (first | rfl | split)

noncomputable def fX7_arePlaces (x0 : Int32) : Int32 :=
  (if x0 < 0 then (0) else (if 7 < x0 then (0) else (1)))
set_option maxHeartbeats 4000000 in
set_option maxRecDepth 100000 in
theorem mX7_arePlaces (l : Launch) (dC : Nat → ClassId) (dI : Nat → Nat → Nat) (cyI cyO : ClassId)   (x0 : Int32) (sz : Nat) (res : Int32) (h : fX7_arePlaces x0 = res) : Met l yX7_arePlaces (wsG yX7_arePlaces cX7_arePlaces 1 (some .boolean)) ({ frames := 0, cells := 0, slots := 0, locals := 0 }) (cP dC dI cyI cyO sz [.int x0] ([] : va_W)) (cI dC dI res ([] : va_W) (va_A ([] : va_W) sz)) 0 0 (va_A ([] : va_W) sz) := by
  refine Met.ofW (cc := cX7_arePlaces) (maxL := 1) (ret := (some .boolean)) (by decide) rfl ?_
  intro p e s m args below meth c s₁ B hml hv
  obtain ⟨rfl, hsz, hP, hK, hD0⟩ := hv
  have hx := B.exec
  have hb := B.bytes
  have hr := B.returns
  have hts := atoms_spec (ws := wsG yX7_arePlaces cX7_arePlaces 1 (some .boolean)) B.pre
  have hown : s.vm.findClass RX7 = some m.cls := findClass_of_methodNamed B.named
  have hlocks := B.notSynchronized
  subst hsz
  have hD := hD0.self (sz := s.heap.size)
  generalize hAe : va_A ([] : va_W) s.heap.size = A at hD ⊢
  have hA : ∀ q : Nat, s.heap.size ≤ q → A q := fun q h => by rw [← hAe]; exact Or.inr h
  have hS : va_S A s.heap s.heap [] := va_S.rf
  have hl := lv_entry ([.int x0]) (n := 1) (Nat.le_of_ble_eq_true rfl)
  rw [lg_entry_eq]
  generalize (lg_sl ([.int x0]) ++ List.replicate (1 - (lg_sl ([.int x0])).length) Slot.unset).toArray = ls at hl ⊢
  have hl : lv_has ls 1 [(0, .int x0)] := hl
  unfold fX7_arePlaces at h
  refine lv_iload_n hx hb dX7_arePlaces_0 rfl (lv_at hl 0 rfl) ?_
  refine lv_if_lt (tgt := 14) hx hb dX7_arePlaces_1 (by decide) (fun c1 => ?_) (fun c1 => ?_)
  · have h := (if_pos c1).symm.trans h
    refine lv_iconst (v := 0) hx hb dX7_arePlaces_14 (by decide) ?_
    obtain rfl := h
    exact e_z hx hb hr hlocks rfl hP hS dX7_arePlaces_15
  · have h := (if_neg c1).symm.trans h
    refine lv_iload_n hx hb dX7_arePlaces_4 rfl (lv_at hl 0 rfl) ?_
    refine lv_bipush (v := 7) hx hb dX7_arePlaces_5 (by decide) ?_
    refine lv_icmp_gt (tgt := 14) hx hb dX7_arePlaces_7 (by decide) (fun c2 => ?_) (fun c2 => ?_)
    · have h := (if_pos c2).symm.trans h
      refine lv_iconst (v := 0) hx hb dX7_arePlaces_14 (by decide) ?_
      obtain rfl := h
      exact e_z hx hb hr hlocks rfl hP hS dX7_arePlaces_15
    · have h := (if_neg c2).symm.trans h
      refine lv_iconst (v := 1) hx hb dX7_arePlaces_10 (by decide) ?_
      refine lv_goto (tgt := 15) hx hb dX7_arePlaces_11 (by decide) ?_
      obtain rfl := h
      exact e_z hx hb hr hlocks rfl hP hS dX7_arePlaces_15
theorem nb_X7_arePlaces  (x0 : Int32) : narrow .boolean (.int (fX7_arePlaces x0)) = .int (fX7_arePlaces x0) := by
  unfold fX7_arePlaces
  repeat (first | rfl | split)

noncomputable def fJ6_bitCount_0f7a4 (x0 : Int32) : Int32 :=
  (((((((((x0 - ((iushr x0 1) &&& 1431655765)) &&& 858993459) + ((iushr (x0 - ((iushr x0 1) &&& 1431655765)) 2) &&& 858993459)) + (iushr (((x0 - ((iushr x0 1) &&& 1431655765)) &&& 858993459) + ((iushr (x0 - ((iushr x0 1) &&& 1431655765)) 2) &&& 858993459)) 4)) &&& 252645135) + (iushr (((((x0 - ((iushr x0 1) &&& 1431655765)) &&& 858993459) + ((iushr (x0 - ((iushr x0 1) &&& 1431655765)) 2) &&& 858993459)) + (iushr (((x0 - ((iushr x0 1) &&& 1431655765)) &&& 858993459) + ((iushr (x0 - ((iushr x0 1) &&& 1431655765)) 2) &&& 858993459)) 4)) &&& 252645135) 8)) + (iushr ((((((x0 - ((iushr x0 1) &&& 1431655765)) &&& 858993459) + ((iushr (x0 - ((iushr x0 1) &&& 1431655765)) 2) &&& 858993459)) + (iushr (((x0 - ((iushr x0 1) &&& 1431655765)) &&& 858993459) + ((iushr (x0 - ((iushr x0 1) &&& 1431655765)) 2) &&& 858993459)) 4)) &&& 252645135) + (iushr (((((x0 - ((iushr x0 1) &&& 1431655765)) &&& 858993459) + ((iushr (x0 - ((iushr x0 1) &&& 1431655765)) 2) &&& 858993459)) + (iushr (((x0 - ((iushr x0 1) &&& 1431655765)) &&& 858993459) + ((iushr (x0 - ((iushr x0 1) &&& 1431655765)) 2) &&& 858993459)) 4)) &&& 252645135) 8)) 16)) &&& 63))
set_option maxHeartbeats 4000000 in
set_option maxRecDepth 100000 in
theorem mJ6_bitCount_0f7a4 (l : Launch) (dC : Nat → ClassId) (dI : Nat → Nat → Nat) (cyI cyO : ClassId)   (x0 : Int32) (sz : Nat) (res : Int32) (h : fJ6_bitCount_0f7a4 x0 = res) : Met l yJ6_bitCount_0f7a4 (wsG yJ6_bitCount_0f7a4 cJ6_bitCount_0f7a4 1 (some .int)) ({ frames := 0, cells := 0, slots := 0, locals := 0 }) (cP dC dI cyI cyO sz [.int x0] ([] : va_W)) (cI dC dI res ([] : va_W) (va_A ([] : va_W) sz)) 0 0 (va_A ([] : va_W) sz) := by
  refine Met.ofW (cc := cJ6_bitCount_0f7a4) (maxL := 1) (ret := (some .int)) (by decide) rfl ?_
  intro p e s m args below meth c s₁ B hml hv
  obtain ⟨rfl, hsz, hP, hK, hD0⟩ := hv
  have hx := B.exec
  have hb := B.bytes
  have hr := B.returns
  have hts := atoms_spec (ws := wsG yJ6_bitCount_0f7a4 cJ6_bitCount_0f7a4 1 (some .int)) B.pre
  have hown : s.vm.findClass RJ6 = some m.cls := findClass_of_methodNamed B.named
  have hlocks := B.notSynchronized
  subst hsz
  have hD := hD0.self (sz := s.heap.size)
  generalize hAe : va_A ([] : va_W) s.heap.size = A at hD ⊢
  have hA : ∀ q : Nat, s.heap.size ≤ q → A q := fun q h => by rw [← hAe]; exact Or.inr h
  have hS : va_S A s.heap s.heap [] := va_S.rf
  have hl := lv_entry ([.int x0]) (n := 1) (Nat.le_of_ble_eq_true rfl)
  rw [lg_entry_eq]
  generalize (lg_sl ([.int x0]) ++ List.replicate (1 - (lg_sl ([.int x0])).length) Slot.unset).toArray = ls at hl ⊢
  have hl : lv_has ls 1 [(0, .int x0)] := hl
  unfold fJ6_bitCount_0f7a4 at h
  refine lv_iload_n hx hb dJ6_bitCount_0f7a4_0 rfl (lv_at hl 0 rfl) ?_
  refine lv_iload_n hx hb dJ6_bitCount_0f7a4_1 rfl (lv_at hl 0 rfl) ?_
  refine lv_iconst (v := 1) hx hb dJ6_bitCount_0f7a4_2 (by decide) ?_
  refine lv_iushr (v := (iushr x0 1)) hx hb dJ6_bitCount_0f7a4_3 rfl ?_
  refine lv_ldcw (v := 1431655765) hx hb hown (hts _ (gb_mem k_J6_265)) dJ6_bitCount_0f7a4_4 ?_
  refine lv_iand hx hb dJ6_bitCount_0f7a4_7 ?_
  refine lv_isub hx hb dJ6_bitCount_0f7a4_8 ?_
  refine lv_istore_n (lv' := [(0, .int (x0 - ((iushr x0 1) &&& 1431655765)))]) hx hb dJ6_bitCount_0f7a4_9 rfl hl (by decide) rfl (fun ls hl => ?_)
  refine lv_iload_n hx hb dJ6_bitCount_0f7a4_10 rfl (lv_at hl 0 rfl) ?_
  refine lv_ldcw (v := 858993459) hx hb hown (hts _ (gb_mem k_J6_266)) dJ6_bitCount_0f7a4_11 ?_
  refine lv_iand hx hb dJ6_bitCount_0f7a4_14 ?_
  refine lv_iload_n hx hb dJ6_bitCount_0f7a4_15 rfl (lv_at hl 0 rfl) ?_
  refine lv_iconst (v := 2) hx hb dJ6_bitCount_0f7a4_16 (by decide) ?_
  refine lv_iushr (v := (iushr (x0 - ((iushr x0 1) &&& 1431655765)) 2)) hx hb dJ6_bitCount_0f7a4_17 rfl ?_
  refine lv_ldcw (v := 858993459) hx hb hown (hts _ (gb_mem k_J6_266)) dJ6_bitCount_0f7a4_18 ?_
  refine lv_iand hx hb dJ6_bitCount_0f7a4_21 ?_
  refine lv_iadd hx hb dJ6_bitCount_0f7a4_22 ?_
  refine lv_istore_n (lv' := [(0, .int (((x0 - ((iushr x0 1) &&& 1431655765)) &&& 858993459) + ((iushr (x0 - ((iushr x0 1) &&& 1431655765)) 2) &&& 858993459)))]) hx hb dJ6_bitCount_0f7a4_23 rfl hl (by decide) rfl (fun ls hl => ?_)
  refine lv_iload_n hx hb dJ6_bitCount_0f7a4_24 rfl (lv_at hl 0 rfl) ?_
  refine lv_iload_n hx hb dJ6_bitCount_0f7a4_25 rfl (lv_at hl 0 rfl) ?_
  refine lv_iconst (v := 4) hx hb dJ6_bitCount_0f7a4_26 (by decide) ?_
  refine lv_iushr (v := (iushr (((x0 - ((iushr x0 1) &&& 1431655765)) &&& 858993459) + ((iushr (x0 - ((iushr x0 1) &&& 1431655765)) 2) &&& 858993459)) 4)) hx hb dJ6_bitCount_0f7a4_27 rfl ?_
  refine lv_iadd hx hb dJ6_bitCount_0f7a4_28 ?_
  refine lv_ldcw (v := 252645135) hx hb hown (hts _ (gb_mem k_J6_267)) dJ6_bitCount_0f7a4_29 ?_
  refine lv_iand hx hb dJ6_bitCount_0f7a4_32 ?_
  refine lv_istore_n (lv' := [(0, .int (((((x0 - ((iushr x0 1) &&& 1431655765)) &&& 858993459) + ((iushr (x0 - ((iushr x0 1) &&& 1431655765)) 2) &&& 858993459)) + (iushr (((x0 - ((iushr x0 1) &&& 1431655765)) &&& 858993459) + ((iushr (x0 - ((iushr x0 1) &&& 1431655765)) 2) &&& 858993459)) 4)) &&& 252645135))]) hx hb dJ6_bitCount_0f7a4_33 rfl hl (by decide) rfl (fun ls hl => ?_)
  refine lv_iload_n hx hb dJ6_bitCount_0f7a4_34 rfl (lv_at hl 0 rfl) ?_
  refine lv_iload_n hx hb dJ6_bitCount_0f7a4_35 rfl (lv_at hl 0 rfl) ?_
  refine lv_bipush (v := 8) hx hb dJ6_bitCount_0f7a4_36 (by decide) ?_
  refine lv_iushr (v := (iushr (((((x0 - ((iushr x0 1) &&& 1431655765)) &&& 858993459) + ((iushr (x0 - ((iushr x0 1) &&& 1431655765)) 2) &&& 858993459)) + (iushr (((x0 - ((iushr x0 1) &&& 1431655765)) &&& 858993459) + ((iushr (x0 - ((iushr x0 1) &&& 1431655765)) 2) &&& 858993459)) 4)) &&& 252645135) 8)) hx hb dJ6_bitCount_0f7a4_38 rfl ?_
  refine lv_iadd hx hb dJ6_bitCount_0f7a4_39 ?_
  refine lv_istore_n (lv' := [(0, .int ((((((x0 - ((iushr x0 1) &&& 1431655765)) &&& 858993459) + ((iushr (x0 - ((iushr x0 1) &&& 1431655765)) 2) &&& 858993459)) + (iushr (((x0 - ((iushr x0 1) &&& 1431655765)) &&& 858993459) + ((iushr (x0 - ((iushr x0 1) &&& 1431655765)) 2) &&& 858993459)) 4)) &&& 252645135) + (iushr (((((x0 - ((iushr x0 1) &&& 1431655765)) &&& 858993459) + ((iushr (x0 - ((iushr x0 1) &&& 1431655765)) 2) &&& 858993459)) + (iushr (((x0 - ((iushr x0 1) &&& 1431655765)) &&& 858993459) + ((iushr (x0 - ((iushr x0 1) &&& 1431655765)) 2) &&& 858993459)) 4)) &&& 252645135) 8)))]) hx hb dJ6_bitCount_0f7a4_40 rfl hl (by decide) rfl (fun ls hl => ?_)
  refine lv_iload_n hx hb dJ6_bitCount_0f7a4_41 rfl (lv_at hl 0 rfl) ?_
  refine lv_iload_n hx hb dJ6_bitCount_0f7a4_42 rfl (lv_at hl 0 rfl) ?_
  refine lv_bipush (v := 16) hx hb dJ6_bitCount_0f7a4_43 (by decide) ?_
  refine lv_iushr (v := (iushr ((((((x0 - ((iushr x0 1) &&& 1431655765)) &&& 858993459) + ((iushr (x0 - ((iushr x0 1) &&& 1431655765)) 2) &&& 858993459)) + (iushr (((x0 - ((iushr x0 1) &&& 1431655765)) &&& 858993459) + ((iushr (x0 - ((iushr x0 1) &&& 1431655765)) 2) &&& 858993459)) 4)) &&& 252645135) + (iushr (((((x0 - ((iushr x0 1) &&& 1431655765)) &&& 858993459) + ((iushr (x0 - ((iushr x0 1) &&& 1431655765)) 2) &&& 858993459)) + (iushr (((x0 - ((iushr x0 1) &&& 1431655765)) &&& 858993459) + ((iushr (x0 - ((iushr x0 1) &&& 1431655765)) 2) &&& 858993459)) 4)) &&& 252645135) 8)) 16)) hx hb dJ6_bitCount_0f7a4_45 rfl ?_
  refine lv_iadd hx hb dJ6_bitCount_0f7a4_46 ?_
  refine lv_istore_n (lv' := [(0, .int (((((((x0 - ((iushr x0 1) &&& 1431655765)) &&& 858993459) + ((iushr (x0 - ((iushr x0 1) &&& 1431655765)) 2) &&& 858993459)) + (iushr (((x0 - ((iushr x0 1) &&& 1431655765)) &&& 858993459) + ((iushr (x0 - ((iushr x0 1) &&& 1431655765)) 2) &&& 858993459)) 4)) &&& 252645135) + (iushr (((((x0 - ((iushr x0 1) &&& 1431655765)) &&& 858993459) + ((iushr (x0 - ((iushr x0 1) &&& 1431655765)) 2) &&& 858993459)) + (iushr (((x0 - ((iushr x0 1) &&& 1431655765)) &&& 858993459) + ((iushr (x0 - ((iushr x0 1) &&& 1431655765)) 2) &&& 858993459)) 4)) &&& 252645135) 8)) + (iushr ((((((x0 - ((iushr x0 1) &&& 1431655765)) &&& 858993459) + ((iushr (x0 - ((iushr x0 1) &&& 1431655765)) 2) &&& 858993459)) + (iushr (((x0 - ((iushr x0 1) &&& 1431655765)) &&& 858993459) + ((iushr (x0 - ((iushr x0 1) &&& 1431655765)) 2) &&& 858993459)) 4)) &&& 252645135) + (iushr (((((x0 - ((iushr x0 1) &&& 1431655765)) &&& 858993459) + ((iushr (x0 - ((iushr x0 1) &&& 1431655765)) 2) &&& 858993459)) + (iushr (((x0 - ((iushr x0 1) &&& 1431655765)) &&& 858993459) + ((iushr (x0 - ((iushr x0 1) &&& 1431655765)) 2) &&& 858993459)) 4)) &&& 252645135) 8)) 16)))]) hx hb dJ6_bitCount_0f7a4_47 rfl hl (by decide) rfl (fun ls hl => ?_)
  refine lv_iload_n hx hb dJ6_bitCount_0f7a4_48 rfl (lv_at hl 0 rfl) ?_
  refine lv_bipush (v := 63) hx hb dJ6_bitCount_0f7a4_49 (by decide) ?_
  refine lv_iand hx hb dJ6_bitCount_0f7a4_51 ?_
  obtain rfl := h
  exact e_i hx hb hr hlocks hP hS dJ6_bitCount_0f7a4_52

noncomputable def fX4_at (n : Nat) (cells : Nat → Int32) (x1 : Int32) : Option (Int32) :=
  (if x1 < 0 then (some 0) else (if (nI n) ≤ x1 then (some 0) else (if x1 < 0 ∨ n ≤ x1.toNatClampNeg then none else (some (cells x1.toNatClampNeg)))))
set_option maxHeartbeats 4000000 in
set_option maxRecDepth 100000 in
theorem mX4_at (l : Launch) (dC : Nat → ClassId) (dI : Nat → Nat → Nat) (cyI cyO : ClassId) (r0 r1 : Nat) (n : Nat) (cells : Nat → Int32) (x1 : Int32) (sz : Nat) (res : Int32) (h : fX4_at n cells x1 = some res) : Met l yX4_at (wsG yX4_at cX4_at 2 (some .int)) ({ frames := 0, cells := 0, slots := 0, locals := 0 }) (cP dC dI cyI cyO sz [.ref r0, .int x1] (rowW cyI r0 r1 n cells)) (cI dC dI res (rowW cyI r0 r1 n cells) (va_A (rowW cyI r0 r1 n cells) sz)) 0 0 (va_A (rowW cyI r0 r1 n cells) sz) := by
  refine Met.ofW (cc := cX4_at) (maxL := 2) (ret := (some .int)) (by decide) rfl ?_
  intro p e s m args below meth c s₁ B hml hv
  obtain ⟨rfl, hsz, hP, hK, hD0⟩ := hv
  have hx := B.exec
  have hb := B.bytes
  have hr := B.returns
  have hts := atoms_spec (ws := wsG yX4_at cX4_at 2 (some .int)) B.pre
  have hown : s.vm.findClass RX4 = some m.cls := findClass_of_methodNamed B.named
  have hlocks := B.notSynchronized
  subst hsz
  have hD := hD0.self (sz := s.heap.size)
  generalize hAe : va_A (rowW cyI r0 r1 n cells) s.heap.size = A at hD ⊢
  have hA : ∀ q : Nat, s.heap.size ≤ q → A q := fun q h => by rw [← hAe]; exact Or.inr h
  have hS : va_S A s.heap s.heap [] := va_S.rf
  have hl := lv_entry ([.ref r0, .int x1]) (n := 2) (Nat.le_of_ble_eq_true rfl)
  rw [lg_entry_eq]
  generalize (lg_sl ([.ref r0, .int x1]) ++ List.replicate (2 - (lg_sl ([.ref r0, .int x1])).length) Slot.unset).toArray = ls at hl ⊢
  have hl : lv_has ls 2 [(0, .ref r0), (1, .int x1)] := hl
  unfold fX4_at at h
  refine lv_iload_n hx hb dX4_at_0 rfl (lv_at hl 1 rfl) ?_
  refine lv_if_lt (tgt := 22) hx hb dX4_at_1 (by decide) (fun c1 => ?_) (fun c1 => ?_)
  · have h := (if_pos c1).symm.trans h
    refine lv_iconst (v := 0) hx hb dX4_at_22 (by decide) ?_
    obtain rfl := Option.some.inj h
    exact e_i hx hb hr hlocks hP hS dX4_at_23
  · have h := (if_neg c1).symm.trans h
    refine lv_iload_n hx hb dX4_at_4 rfl (lv_at hl 1 rfl) ?_
    refine lv_aload_n hx hb dX4_at_5 rfl (lv_at hl 0 rfl) ?_
    refine va_get (D := (dC, dI)) (ci := 4) (v := .ref r1) (C := RX4) (T := TX4) (N := 1) hx hb hts (fun w h9 => gb_mem (lay_X4 w h9)) hown hK.1 hP 0 rfl rfl 0 (by decide) (hts _ (gb_mem fl_X4_13)) (fun _ h9 => h9) rfl dX4_at_6 ?_
    refine va_alen (v := (nI n)) hx hb hK.1 hP 1 0 rfl rfl rfl dX4_at_9 ?_
    refine lv_icmp_ge (tgt := 22) hx hb dX4_at_10 (by decide) (fun c2 => ?_) (fun c2 => ?_)
    · have h := (if_pos c2).symm.trans h
      refine lv_iconst (v := 0) hx hb dX4_at_22 (by decide) ?_
      obtain rfl := Option.some.inj h
      exact e_i hx hb hr hlocks hP hS dX4_at_23
    · have h := (if_neg c2).symm.trans h
      refine lv_aload_n hx hb dX4_at_13 rfl (lv_at hl 0 rfl) ?_
      refine va_get (D := (dC, dI)) (ci := 4) (v := .ref r1) (C := RX4) (T := TX4) (N := 1) hx hb hts (fun w h9 => gb_mem (lay_X4 w h9)) hown hK.1 hP 0 rfl rfl 0 (by decide) (hts _ (gb_mem fl_X4_13)) (fun _ h9 => h9) rfl dX4_at_14 ?_
      refine lv_iload_n hx hb dX4_at_17 rfl (lv_at hl 1 rfl) ?_
      obtain ⟨n3, h⟩ := ifn h
      refine va_iald hx hb hK.1 hP 1 0 rfl rfl n3 dX4_at_18 ?_
      refine lv_goto (tgt := 23) hx hb dX4_at_19 (by decide) ?_
      obtain rfl := Option.some.inj h
      exact e_i hx hb hr hlocks hP hS dX4_at_23
theorem qX4_at (n : Nat) (hn : n < 2 ^ 31) (cells : Nat → Int32) (x1 : Int32) : fX4_at n cells x1 = some (rAt n cells x1) := by
  unfold fX4_at rAt
  by_cases h1 : x1 < 0
  · simp [h1]
  · by_cases h2 : nI n ≤ x1
    · simp [h1, h2]
    · obtain ⟨j, hj, -, -, hc, -⟩ := pk_mu h1 h2 hn
      rw [if_neg h1, if_neg h2, if_neg h1, if_neg h2]
      rw [if_neg (by intro q; rcases q with q | q; exact h1 q; omega)]
theorem tX4_at (l : Launch) (dC : Nat → ClassId) (dI : Nat → Nat → Nat) (cyI cyO : ClassId) (r0 r1 : Nat) (n : Nat) (cells : Nat → Int32) (x1 : Int32) (sz : Nat) (res : Int32) (h : rAt n cells x1 = res) (hn : n < 2 ^ 31) : Met l yX4_at (wsG yX4_at cX4_at 2 (some .int)) ({ frames := 0, cells := 0, slots := 0, locals := 0 }) (cP dC dI cyI cyO sz [.ref r0, .int x1] (rowW cyI r0 r1 n cells)) (cI dC dI (rAt n cells x1) (rowW cyI r0 r1 n cells) (va_A (rowW cyI r0 r1 n cells) sz)) 0 0 (va_A (rowW cyI r0 r1 n cells) sz) := by
  subst h
  exact mX4_at l dC dI cyI cyO r0 r1 n cells x1 sz _ (qX4_at n hn cells x1)

noncomputable def fX4_set (n : Nat) (cells : Nat → Int32) (x1 : Int32) (x2 : Int32) : Option ((Nat → Int32)) :=
  (if x1 < 0 then (some cells) else (if (nI n) ≤ x1 then (some cells) else (if x1 < 0 ∨ n ≤ x1.toNatClampNeg then none else (some (upd cells x1.toNatClampNeg x2)))))
set_option maxHeartbeats 4000000 in
set_option maxRecDepth 100000 in
theorem mX4_set (l : Launch) (dC : Nat → ClassId) (dI : Nat → Nat → Nat) (cyI cyO : ClassId) (r0 r1 : Nat) (n : Nat) (cells : Nat → Int32) (x1 : Int32) (x2 : Int32) (sz : Nat) (res : (Nat → Int32)) (h : fX4_set n cells x1 x2 = some res) : Met l yX4_set (wsG yX4_set cX4_set 3 none) ({ frames := 0, cells := 0, slots := 0, locals := 0 }) (cP dC dI cyI cyO sz [.ref r0, .int x1, .int x2] (rowW cyI r0 r1 n cells)) (cV dC dI (rowW cyI r0 r1 n res) (va_A (rowW cyI r0 r1 n cells) sz)) 0 0 (va_A (rowW cyI r0 r1 n cells) sz) := by
  refine Met.ofW (cc := cX4_set) (maxL := 3) (ret := none) (by decide) rfl ?_
  intro p e s m args below meth c s₁ B hml hv
  obtain ⟨rfl, hsz, hP, hK, hD0⟩ := hv
  have hx := B.exec
  have hb := B.bytes
  have hr := B.returns
  have hts := atoms_spec (ws := wsG yX4_set cX4_set 3 none) B.pre
  have hown : s.vm.findClass RX4 = some m.cls := findClass_of_methodNamed B.named
  have hlocks := B.notSynchronized
  subst hsz
  have hD := hD0.self (sz := s.heap.size)
  generalize hAe : va_A (rowW cyI r0 r1 n cells) s.heap.size = A at hD ⊢
  have hA : ∀ q : Nat, s.heap.size ≤ q → A q := fun q h => by rw [← hAe]; exact Or.inr h
  have hS : va_S A s.heap s.heap [] := va_S.rf
  have hl := lv_entry ([.ref r0, .int x1, .int x2]) (n := 3) (Nat.le_of_ble_eq_true rfl)
  rw [lg_entry_eq]
  generalize (lg_sl ([.ref r0, .int x1, .int x2]) ++ List.replicate (3 - (lg_sl ([.ref r0, .int x1, .int x2])).length) Slot.unset).toArray = ls at hl ⊢
  have hl : lv_has ls 3 [(0, .ref r0), (1, .int x1), (2, .int x2)] := hl
  unfold fX4_set at h
  refine lv_iload_n hx hb dX4_set_0 rfl (lv_at hl 1 rfl) ?_
  refine lv_if_lt (tgt := 20) hx hb dX4_set_1 (by decide) (fun c1 => ?_) (fun c1 => ?_)
  · have h := (if_pos c1).symm.trans h
    obtain rfl := Option.some.inj h
    exact e_v hx hb hr hlocks hP hS dX4_set_20
  · have h := (if_neg c1).symm.trans h
    refine lv_iload_n hx hb dX4_set_4 rfl (lv_at hl 1 rfl) ?_
    refine lv_aload_n hx hb dX4_set_5 rfl (lv_at hl 0 rfl) ?_
    refine va_get (D := (dC, dI)) (ci := 4) (v := .ref r1) (C := RX4) (T := TX4) (N := 1) hx hb hts (fun w h9 => gb_mem (lay_X4 w h9)) hown hK.1 hP 0 rfl rfl 0 (by decide) (hts _ (gb_mem fl_X4_13)) (fun _ h9 => h9) rfl dX4_set_6 ?_
    refine va_alen (v := (nI n)) hx hb hK.1 hP 1 0 rfl rfl rfl dX4_set_9 ?_
    refine lv_icmp_ge (tgt := 20) hx hb dX4_set_10 (by decide) (fun c2 => ?_) (fun c2 => ?_)
    · have h := (if_pos c2).symm.trans h
      obtain rfl := Option.some.inj h
      exact e_v hx hb hr hlocks hP hS dX4_set_20
    · have h := (if_neg c2).symm.trans h
      refine lv_aload_n hx hb dX4_set_13 rfl (lv_at hl 0 rfl) ?_
      refine va_get (D := (dC, dI)) (ci := 4) (v := .ref r1) (C := RX4) (T := TX4) (N := 1) hx hb hts (fun w h9 => gb_mem (lay_X4 w h9)) hown hK.1 hP 0 rfl rfl 0 (by decide) (hts _ (gb_mem fl_X4_13)) (fun _ h9 => h9) rfl dX4_set_14 ?_
      refine lv_iload_n hx hb dX4_set_17 rfl (lv_at hl 1 rfl) ?_
      refine lv_iload_n hx hb dX4_set_18 rfl (lv_at hl 2 rfl) ?_
      obtain ⟨n3, h⟩ := ifn h
      refine va_iast hx hb hK.1 hP hD hS 1 0 rfl rfl n3 dX4_set_19 (fun H locs hP hD hS => ?_)
      have hP : va_P (dC, dI) vwCl (rowW cyI r0 r1 n (upd cells x1.toNatClampNeg x2)) H := hP
      have hD : va_D A (rowW cyI r0 r1 n (upd cells x1.toNatClampNeg x2)) := hD
      obtain rfl := Option.some.inj h
      exact e_v hx hb hr hlocks hP hS dX4_set_20
theorem qX4_set (n : Nat) (hn : n < 2 ^ 31) (cells : Nat → Int32) (x1 x2 : Int32) : fX4_set n cells x1 x2 = some (rSet n cells x1 x2) := by
  unfold fX4_set rSet
  by_cases h1 : x1 < 0
  · simp [h1]
  · by_cases h2 : nI n ≤ x1
    · simp [h1, h2]
    · obtain ⟨j, hj, -, -, hc, -⟩ := pk_mu h1 h2 hn
      rw [if_neg h1, if_neg h2, if_neg h1, if_neg h2]
      rw [if_neg (by intro q; rcases q with q | q; exact h1 q; omega)]
theorem tX4_set (l : Launch) (dC : Nat → ClassId) (dI : Nat → Nat → Nat) (cyI cyO : ClassId) (r0 r1 : Nat) (n : Nat) (cells : Nat → Int32) (x1 x2 : Int32) (sz : Nat) (res : Nat → Int32) (h : rSet n cells x1 x2 = res) (hn : n < 2 ^ 31) : Met l yX4_set (wsG yX4_set cX4_set 3 none) ({ frames := 0, cells := 0, slots := 0, locals := 0 }) (cP dC dI cyI cyO sz [.ref r0, .int x1, .int x2] (rowW cyI r0 r1 n cells)) (cV dC dI (rowW cyI r0 r1 n (rSet n cells x1 x2)) (va_A (rowW cyI r0 r1 n cells) sz)) 0 0 (va_A (rowW cyI r0 r1 n cells) sz) := by
  subst h
  exact mX4_set l dC dI cyI cyO r0 r1 n cells x1 x2 sz _ (qX4_set n hn cells x1 x2)

noncomputable def fX4_add (n : Nat) (cells : Nat → Int32) (x1 : Int32) (x2 : Int32) : Option ((Nat → Int32)) :=
  (if x1 < 0 then (some cells) else (if (nI n) ≤ x1 then (some cells) else (if x1 < 0 ∨ n ≤ x1.toNatClampNeg then none else (if x1 < 0 ∨ n ≤ x1.toNatClampNeg then none else (some (upd cells x1.toNatClampNeg ((cells x1.toNatClampNeg) + x2)))))))
set_option maxHeartbeats 4000000 in
set_option maxRecDepth 100000 in
theorem mX4_add (l : Launch) (dC : Nat → ClassId) (dI : Nat → Nat → Nat) (cyI cyO : ClassId) (r0 r1 : Nat) (n : Nat) (cells : Nat → Int32) (x1 : Int32) (x2 : Int32) (sz : Nat) (res : (Nat → Int32)) (h : fX4_add n cells x1 x2 = some res) : Met l yX4_add (wsG yX4_add cX4_add 3 none) ({ frames := 0, cells := 0, slots := 0, locals := 0 }) (cP dC dI cyI cyO sz [.ref r0, .int x1, .int x2] (rowW cyI r0 r1 n cells)) (cV dC dI (rowW cyI r0 r1 n res) (va_A (rowW cyI r0 r1 n cells) sz)) 0 0 (va_A (rowW cyI r0 r1 n cells) sz) := by
  refine Met.ofW (cc := cX4_add) (maxL := 3) (ret := none) (by decide) rfl ?_
  intro p e s m args below meth c s₁ B hml hv
  obtain ⟨rfl, hsz, hP, hK, hD0⟩ := hv
  have hx := B.exec
  have hb := B.bytes
  have hr := B.returns
  have hts := atoms_spec (ws := wsG yX4_add cX4_add 3 none) B.pre
  have hown : s.vm.findClass RX4 = some m.cls := findClass_of_methodNamed B.named
  have hlocks := B.notSynchronized
  subst hsz
  have hD := hD0.self (sz := s.heap.size)
  generalize hAe : va_A (rowW cyI r0 r1 n cells) s.heap.size = A at hD ⊢
  have hA : ∀ q : Nat, s.heap.size ≤ q → A q := fun q h => by rw [← hAe]; exact Or.inr h
  have hS : va_S A s.heap s.heap [] := va_S.rf
  have hl := lv_entry ([.ref r0, .int x1, .int x2]) (n := 3) (Nat.le_of_ble_eq_true rfl)
  rw [lg_entry_eq]
  generalize (lg_sl ([.ref r0, .int x1, .int x2]) ++ List.replicate (3 - (lg_sl ([.ref r0, .int x1, .int x2])).length) Slot.unset).toArray = ls at hl ⊢
  have hl : lv_has ls 3 [(0, .ref r0), (1, .int x1), (2, .int x2)] := hl
  unfold fX4_add at h
  refine lv_iload_n hx hb dX4_add_0 rfl (lv_at hl 1 rfl) ?_
  refine lv_if_lt (tgt := 23) hx hb dX4_add_1 (by decide) (fun c1 => ?_) (fun c1 => ?_)
  · have h := (if_pos c1).symm.trans h
    obtain rfl := Option.some.inj h
    exact e_v hx hb hr hlocks hP hS dX4_add_23
  · have h := (if_neg c1).symm.trans h
    refine lv_iload_n hx hb dX4_add_4 rfl (lv_at hl 1 rfl) ?_
    refine lv_aload_n hx hb dX4_add_5 rfl (lv_at hl 0 rfl) ?_
    refine va_get (D := (dC, dI)) (ci := 4) (v := .ref r1) (C := RX4) (T := TX4) (N := 1) hx hb hts (fun w h9 => gb_mem (lay_X4 w h9)) hown hK.1 hP 0 rfl rfl 0 (by decide) (hts _ (gb_mem fl_X4_13)) (fun _ h9 => h9) rfl dX4_add_6 ?_
    refine va_alen (v := (nI n)) hx hb hK.1 hP 1 0 rfl rfl rfl dX4_add_9 ?_
    refine lv_icmp_ge (tgt := 23) hx hb dX4_add_10 (by decide) (fun c2 => ?_) (fun c2 => ?_)
    · have h := (if_pos c2).symm.trans h
      obtain rfl := Option.some.inj h
      exact e_v hx hb hr hlocks hP hS dX4_add_23
    · have h := (if_neg c2).symm.trans h
      refine lv_aload_n hx hb dX4_add_13 rfl (lv_at hl 0 rfl) ?_
      refine va_get (D := (dC, dI)) (ci := 4) (v := .ref r1) (C := RX4) (T := TX4) (N := 1) hx hb hts (fun w h9 => gb_mem (lay_X4 w h9)) hown hK.1 hP 0 rfl rfl 0 (by decide) (hts _ (gb_mem fl_X4_13)) (fun _ h9 => h9) rfl dX4_add_14 ?_
      refine lv_iload_n hx hb dX4_add_17 rfl (lv_at hl 1 rfl) ?_
      refine lv_dup2_11 hx hb dX4_add_18 rfl rfl ?_
      obtain ⟨n3, h⟩ := ifn h
      refine va_iald hx hb hK.1 hP 1 0 rfl rfl n3 dX4_add_19 ?_
      refine lv_iload_n hx hb dX4_add_20 rfl (lv_at hl 2 rfl) ?_
      refine lv_iadd hx hb dX4_add_21 ?_
      obtain ⟨n4, h⟩ := ifn h
      refine va_iast hx hb hK.1 hP hD hS 1 0 rfl rfl n4 dX4_add_22 (fun H locs hP hD hS => ?_)
      have hP : va_P (dC, dI) vwCl (rowW cyI r0 r1 n (upd cells x1.toNatClampNeg ((cells x1.toNatClampNeg) + x2))) H := hP
      have hD : va_D A (rowW cyI r0 r1 n (upd cells x1.toNatClampNeg ((cells x1.toNatClampNeg) + x2))) := hD
      obtain rfl := Option.some.inj h
      exact e_v hx hb hr hlocks hP hS dX4_add_23
theorem qX4_add (n : Nat) (hn : n < 2 ^ 31) (cells : Nat → Int32) (x1 x2 : Int32) : fX4_add n cells x1 x2 = some (rAdd n cells x1 x2) := by
  unfold fX4_add rAdd
  by_cases h1 : x1 < 0
  · simp [h1]
  · by_cases h2 : nI n ≤ x1
    · simp [h1, h2]
    · obtain ⟨j, hj, -, -, hc, -⟩ := pk_mu h1 h2 hn
      rw [if_neg h1, if_neg h2, if_neg h1, if_neg h2]
      rw [if_neg (by intro q; rcases q with q | q; exact h1 q; omega)]
      first | rfl | rw [if_neg (by intro q; rcases q with q | q; exact h1 q; omega)]
theorem tX4_add (l : Launch) (dC : Nat → ClassId) (dI : Nat → Nat → Nat) (cyI cyO : ClassId) (r0 r1 : Nat) (n : Nat) (cells : Nat → Int32) (x1 x2 : Int32) (sz : Nat) (res : Nat → Int32) (h : rAdd n cells x1 x2 = res) (hn : n < 2 ^ 31) : Met l yX4_add (wsG yX4_add cX4_add 3 none) ({ frames := 0, cells := 0, slots := 0, locals := 0 }) (cP dC dI cyI cyO sz [.ref r0, .int x1, .int x2] (rowW cyI r0 r1 n cells)) (cV dC dI (rowW cyI r0 r1 n (rAdd n cells x1 x2)) (va_A (rowW cyI r0 r1 n cells) sz)) 0 0 (va_A (rowW cyI r0 r1 n cells) sz) := by
  subst h
  exact mX4_add l dC dI cyI cyO r0 r1 n cells x1 x2 sz _ (qX4_add n hn cells x1 x2)
end
