/-- a private method of a class that the tables say can be made, by its rows of tables_1 -/
def lw_okq (q : MethodName × Nat) : Prop := (q.1.cls ≠ "java/lang/invoke/MethodHandle" ∧ q.1.cls ≠ "java/lang/invoke/VarHandle") ∧ Cond.instantiable q.1.cls q.2 ∈ tables_1 ∧ Cond.privateMethod q.1 ∈ tables_1 ∧ Cond.instanceMethod q.1 ∈ tables_1
theorem lw_p0 : lw_okq (⟨"PigeonPost", "placeFault", "(II)I"⟩, 10) := ⟨⟨by decide +kernel, by decide +kernel⟩, List.mem_of_getElem? (i := 16) (by decide +kernel), List.mem_of_getElem? (i := 336) (by decide +kernel), List.mem_of_getElem? (i := 337) (by decide +kernel)⟩
theorem lw_p1 : lw_okq (⟨"PigeonPost", "pourFault", "(IIIII)I"⟩, 10) := ⟨⟨by decide +kernel, by decide +kernel⟩, List.mem_of_getElem? (i := 16) (by decide +kernel), List.mem_of_getElem? (i := 360) (by decide +kernel), List.mem_of_getElem? (i := 361) (by decide +kernel)⟩
theorem lw_p2 : lw_okq (⟨"PigeonPost", "roadFault", "(IIII)I"⟩, 10) := ⟨⟨by decide +kernel, by decide +kernel⟩, List.mem_of_getElem? (i := 16) (by decide +kernel), List.mem_of_getElem? (i := 383) (by decide +kernel), List.mem_of_getElem? (i := 384) (by decide +kernel)⟩
theorem lw_p3 : lw_okq (⟨"PigeonPost", "areTwoTowns", "(II)Z"⟩, 10) := ⟨⟨by decide +kernel, by decide +kernel⟩, List.mem_of_getElem? (i := 16) (by decide +kernel), List.mem_of_getElem? (i := 387) (by decide +kernel), List.mem_of_getElem? (i := 388) (by decide +kernel)⟩
theorem lw_p4 : lw_okq (⟨"PigeonPost", "isTown", "(I)Z"⟩, 10) := ⟨⟨by decide +kernel, by decide +kernel⟩, List.mem_of_getElem? (i := 16) (by decide +kernel), List.mem_of_getElem? (i := 391) (by decide +kernel), List.mem_of_getElem? (i := 392) (by decide +kernel)⟩
theorem lw_p5 : lw_okq (⟨"PigeonPost", "birdFault", "(I)I"⟩, 10) := ⟨⟨by decide +kernel, by decide +kernel⟩, List.mem_of_getElem? (i := 16) (by decide +kernel), List.mem_of_getElem? (i := 411) (by decide +kernel), List.mem_of_getElem? (i := 412) (by decide +kernel)⟩
theorem lw_p6 : lw_okq (⟨"PigeonPost", "carryFault", "(II)I"⟩, 10) := ⟨⟨by decide +kernel, by decide +kernel⟩, List.mem_of_getElem? (i := 16) (by decide +kernel), List.mem_of_getElem? (i := 427) (by decide +kernel), List.mem_of_getElem? (i := 428) (by decide +kernel)⟩
theorem lw_p7 : lw_okq (⟨"PigeonPost", "isBird", "(I)Z"⟩, 10) := ⟨⟨by decide +kernel, by decide +kernel⟩, List.mem_of_getElem? (i := 16) (by decide +kernel), List.mem_of_getElem? (i := 431) (by decide +kernel), List.mem_of_getElem? (i := 432) (by decide +kernel)⟩
theorem lw_p8 : lw_okq (⟨"PigeonPost", "sureFault", "(III)I"⟩, 10) := ⟨⟨by decide +kernel, by decide +kernel⟩, List.mem_of_getElem? (i := 16) (by decide +kernel), List.mem_of_getElem? (i := 456) (by decide +kernel), List.mem_of_getElem? (i := 457) (by decide +kernel)⟩
theorem lw_p9 : lw_okq (⟨"PigeonPost$Relays", "extend", "(I)V"⟩, 15) := ⟨⟨by decide +kernel, by decide +kernel⟩, List.mem_of_getElem? (i := 130) (by decide +kernel), List.mem_of_getElem? (i := 508) (by decide +kernel), List.mem_of_getElem? (i := 509) (by decide +kernel)⟩
theorem lw_p10 : lw_okq (⟨"PigeonPost$Relays", "canGoOn", "(II)Z"⟩, 15) := ⟨⟨by decide +kernel, by decide +kernel⟩, List.mem_of_getElem? (i := 130) (by decide +kernel), List.mem_of_getElem? (i := 512) (by decide +kernel), List.mem_of_getElem? (i := 513) (by decide +kernel)⟩
theorem lw_p11 : lw_okq (⟨"PigeonPost$Relays", "tryDoubles", "(I)V"⟩, 15) := ⟨⟨by decide +kernel, by decide +kernel⟩, List.mem_of_getElem? (i := 130) (by decide +kernel), List.mem_of_getElem? (i := 517) (by decide +kernel), List.mem_of_getElem? (i := 518) (by decide +kernel)⟩
theorem lw_p12 : lw_okq (⟨"PigeonPost$Relays", "weigh", "(II)V"⟩, 15) := ⟨⟨by decide +kernel, by decide +kernel⟩, List.mem_of_getElem? (i := 130) (by decide +kernel), List.mem_of_getElem? (i := 524) (by decide +kernel), List.mem_of_getElem? (i := 525) (by decide +kernel)⟩
theorem lw_p13 : lw_okq (⟨"PigeonPost$Relays", "isBetter", "(II)Z"⟩, 15) := ⟨⟨by decide +kernel, by decide +kernel⟩, List.mem_of_getElem? (i := 130) (by decide +kernel), List.mem_of_getElem? (i := 531) (by decide +kernel), List.mem_of_getElem? (i := 532) (by decide +kernel)⟩
theorem lw_p14 : lw_okq (⟨"PigeonPost$Relays", "goToNextDoubles", "(I)V"⟩, 15) := ⟨⟨by decide +kernel, by decide +kernel⟩, List.mem_of_getElem? (i := 130) (by decide +kernel), List.mem_of_getElem? (i := 536) (by decide +kernel), List.mem_of_getElem? (i := 537) (by decide +kernel)⟩
theorem lw_p15 : lw_okq (⟨"PigeonPost", "legFault", "(II)I"⟩, 10) := ⟨⟨by decide +kernel, by decide +kernel⟩, List.mem_of_getElem? (i := 16) (by decide +kernel), List.mem_of_getElem? (i := 544) (by decide +kernel), List.mem_of_getElem? (i := 545) (by decide +kernel)⟩
def lw_privs_1 : List (MethodName × Nat) := [(⟨"PigeonPost", "placeFault", "(II)I"⟩, 10), (⟨"PigeonPost", "pourFault", "(IIIII)I"⟩, 10), (⟨"PigeonPost", "roadFault", "(IIII)I"⟩, 10), (⟨"PigeonPost", "areTwoTowns", "(II)Z"⟩, 10), (⟨"PigeonPost", "isTown", "(I)Z"⟩, 10), (⟨"PigeonPost", "birdFault", "(I)I"⟩, 10), (⟨"PigeonPost", "carryFault", "(II)I"⟩, 10), (⟨"PigeonPost", "isBird", "(I)Z"⟩, 10), (⟨"PigeonPost", "sureFault", "(III)I"⟩, 10), (⟨"PigeonPost$Relays", "extend", "(I)V"⟩, 15), (⟨"PigeonPost$Relays", "canGoOn", "(II)Z"⟩, 15), (⟨"PigeonPost$Relays", "tryDoubles", "(I)V"⟩, 15), (⟨"PigeonPost$Relays", "weigh", "(II)V"⟩, 15), (⟨"PigeonPost$Relays", "isBetter", "(II)Z"⟩, 15), (⟨"PigeonPost$Relays", "goToNextDoubles", "(I)V"⟩, 15), (⟨"PigeonPost", "legFault", "(II)I"⟩, 10)]
theorem lw_r1 : ∀ q ∈ lw_privs_1, lw_okq q := List.forall_mem_cons.mpr ⟨lw_p0, List.forall_mem_cons.mpr ⟨lw_p1, List.forall_mem_cons.mpr ⟨lw_p2, List.forall_mem_cons.mpr ⟨lw_p3, List.forall_mem_cons.mpr ⟨lw_p4, List.forall_mem_cons.mpr ⟨lw_p5, List.forall_mem_cons.mpr ⟨lw_p6, List.forall_mem_cons.mpr ⟨lw_p7, List.forall_mem_cons.mpr ⟨lw_p8, List.forall_mem_cons.mpr ⟨lw_p9, List.forall_mem_cons.mpr ⟨lw_p10, List.forall_mem_cons.mpr ⟨lw_p11, List.forall_mem_cons.mpr ⟨lw_p12, List.forall_mem_cons.mpr ⟨lw_p13, List.forall_mem_cons.mpr ⟨lw_p14, List.forall_mem_cons.mpr ⟨lw_p15, fun _ h => absurd h List.not_mem_nil⟩⟩⟩⟩⟩⟩⟩⟩⟩⟩⟩⟩⟩⟩⟩⟩
theorem lw_p16 : lw_okq (⟨"PigeonPost$Baskets", "weighTown", "(III)V"⟩, 7) := ⟨⟨by decide +kernel, by decide +kernel⟩, List.mem_of_getElem? (i := 187) (by decide +kernel), List.mem_of_getElem? (i := 571) (by decide +kernel), List.mem_of_getElem? (i := 572) (by decide +kernel)⟩
theorem lw_p17 : lw_okq (⟨"PigeonPost$Baskets", "worthOf", "(III)J"⟩, 7) := ⟨⟨by decide +kernel, by decide +kernel⟩, List.mem_of_getElem? (i := 187) (by decide +kernel), List.mem_of_getElem? (i := 576) (by decide +kernel), List.mem_of_getElem? (i := 577) (by decide +kernel)⟩
theorem lw_p18 : lw_okq (⟨"PigeonPost$Baskets", "fareOf", "(III)J"⟩, 7) := ⟨⟨by decide +kernel, by decide +kernel⟩, List.mem_of_getElem? (i := 187) (by decide +kernel), List.mem_of_getElem? (i := 581) (by decide +kernel), List.mem_of_getElem? (i := 582) (by decide +kernel)⟩
theorem lw_p19 : lw_okq (⟨"PigeonPost", "letterFault", "(IIII)I"⟩, 10) := ⟨⟨by decide +kernel, by decide +kernel⟩, List.mem_of_getElem? (i := 16) (by decide +kernel), List.mem_of_getElem? (i := 619) (by decide +kernel), List.mem_of_getElem? (i := 620) (by decide +kernel)⟩
theorem lw_p20 : lw_okq (⟨"PigeonPost", "flyFault", "(III)I"⟩, 10) := ⟨⟨by decide +kernel, by decide +kernel⟩, List.mem_of_getElem? (i := 16) (by decide +kernel), List.mem_of_getElem? (i := 644) (by decide +kernel), List.mem_of_getElem? (i := 645) (by decide +kernel)⟩
theorem lw_p21 : lw_okq (⟨"PigeonPost", "isLetter", "(I)Z"⟩, 10) := ⟨⟨by decide +kernel, by decide +kernel⟩, List.mem_of_getElem? (i := 16) (by decide +kernel), List.mem_of_getElem? (i := 648) (by decide +kernel), List.mem_of_getElem? (i := 649) (by decide +kernel)⟩
theorem lw_p22 : lw_okq (⟨"PigeonPost", "comesFault", "(IIII)I"⟩, 10) := ⟨⟨by decide +kernel, by decide +kernel⟩, List.mem_of_getElem? (i := 16) (by decide +kernel), List.mem_of_getElem? (i := 665) (by decide +kernel), List.mem_of_getElem? (i := 666) (by decide +kernel)⟩
theorem lw_p23 : lw_okq (⟨"PigeonPost", "isTear", "(III)Z"⟩, 10) := ⟨⟨by decide +kernel, by decide +kernel⟩, List.mem_of_getElem? (i := 16) (by decide +kernel), List.mem_of_getElem? (i := 669) (by decide +kernel), List.mem_of_getElem? (i := 670) (by decide +kernel)⟩
theorem lw_p24 : lw_okq (⟨"PigeonPost", "loseFault", "(II)I"⟩, 10) := ⟨⟨by decide +kernel, by decide +kernel⟩, List.mem_of_getElem? (i := 16) (by decide +kernel), List.mem_of_getElem? (i := 686) (by decide +kernel), List.mem_of_getElem? (i := 687) (by decide +kernel)⟩
theorem lw_p25 : lw_okq (⟨"PigeonPost", "joinedFault", "(III)I"⟩, 10) := ⟨⟨by decide +kernel, by decide +kernel⟩, List.mem_of_getElem? (i := 16) (by decide +kernel), List.mem_of_getElem? (i := 702) (by decide +kernel), List.mem_of_getElem? (i := 703) (by decide +kernel)⟩
theorem lw_p26 : lw_okq (⟨"PigeonPost", "readingFault", "(III)I"⟩, 10) := ⟨⟨by decide +kernel, by decide +kernel⟩, List.mem_of_getElem? (i := 16) (by decide +kernel), List.mem_of_getElem? (i := 718) (by decide +kernel), List.mem_of_getElem? (i := 719) (by decide +kernel)⟩
theorem lw_p27 : lw_okq (⟨"PigeonPost", "rightFault", "(II)I"⟩, 10) := ⟨⟨by decide +kernel, by decide +kernel⟩, List.mem_of_getElem? (i := 16) (by decide +kernel), List.mem_of_getElem? (i := 735) (by decide +kernel), List.mem_of_getElem? (i := 736) (by decide +kernel)⟩
theorem lw_p28 : lw_okq (⟨"PigeonPost$Clocks", "latestUpTo", "(II)I"⟩, 3) := ⟨⟨by decide +kernel, by decide +kernel⟩, List.mem_of_getElem? (i := 251) (by decide +kernel), List.mem_of_getElem? (i := 743) (by decide +kernel), List.mem_of_getElem? (i := 744) (by decide +kernel)⟩
theorem lw_p29 : lw_okq (⟨"PigeonPostModel", "is", "(I)Z"⟩, 45) := ⟨⟨by decide +kernel, by decide +kernel⟩, List.mem_of_getElem? (i := 749) (by decide +kernel), List.mem_of_getElem? (i := 911) (by decide +kernel), List.mem_of_getElem? (i := 912) (by decide +kernel)⟩
theorem lw_p30 : lw_okq (⟨"PigeonPostModel", "wrong", "(II)I"⟩, 45) := ⟨⟨by decide +kernel, by decide +kernel⟩, List.mem_of_getElem? (i := 749) (by decide +kernel), List.mem_of_getElem? (i := 919) (by decide +kernel), List.mem_of_getElem? (i := 920) (by decide +kernel)⟩
theorem lw_p31 : lw_okq (⟨"PigeonPostModel", "refuse", "(I)I"⟩, 45) := ⟨⟨by decide +kernel, by decide +kernel⟩, List.mem_of_getElem? (i := 749) (by decide +kernel), List.mem_of_getElem? (i := 939) (by decide +kernel), List.mem_of_getElem? (i := 940) (by decide +kernel)⟩
def lw_privs_2 : List (MethodName × Nat) := [(⟨"PigeonPost$Baskets", "weighTown", "(III)V"⟩, 7), (⟨"PigeonPost$Baskets", "worthOf", "(III)J"⟩, 7), (⟨"PigeonPost$Baskets", "fareOf", "(III)J"⟩, 7), (⟨"PigeonPost", "letterFault", "(IIII)I"⟩, 10), (⟨"PigeonPost", "flyFault", "(III)I"⟩, 10), (⟨"PigeonPost", "isLetter", "(I)Z"⟩, 10), (⟨"PigeonPost", "comesFault", "(IIII)I"⟩, 10), (⟨"PigeonPost", "isTear", "(III)Z"⟩, 10), (⟨"PigeonPost", "loseFault", "(II)I"⟩, 10), (⟨"PigeonPost", "joinedFault", "(III)I"⟩, 10), (⟨"PigeonPost", "readingFault", "(III)I"⟩, 10), (⟨"PigeonPost", "rightFault", "(II)I"⟩, 10), (⟨"PigeonPost$Clocks", "latestUpTo", "(II)I"⟩, 3), (⟨"PigeonPostModel", "is", "(I)Z"⟩, 45), (⟨"PigeonPostModel", "wrong", "(II)I"⟩, 45), (⟨"PigeonPostModel", "refuse", "(I)I"⟩, 45)]
theorem lw_r2 : ∀ q ∈ lw_privs_2, lw_okq q := List.forall_mem_cons.mpr ⟨lw_p16, List.forall_mem_cons.mpr ⟨lw_p17, List.forall_mem_cons.mpr ⟨lw_p18, List.forall_mem_cons.mpr ⟨lw_p19, List.forall_mem_cons.mpr ⟨lw_p20, List.forall_mem_cons.mpr ⟨lw_p21, List.forall_mem_cons.mpr ⟨lw_p22, List.forall_mem_cons.mpr ⟨lw_p23, List.forall_mem_cons.mpr ⟨lw_p24, List.forall_mem_cons.mpr ⟨lw_p25, List.forall_mem_cons.mpr ⟨lw_p26, List.forall_mem_cons.mpr ⟨lw_p27, List.forall_mem_cons.mpr ⟨lw_p28, List.forall_mem_cons.mpr ⟨lw_p29, List.forall_mem_cons.mpr ⟨lw_p30, List.forall_mem_cons.mpr ⟨lw_p31, fun _ h => absurd h List.not_mem_nil⟩⟩⟩⟩⟩⟩⟩⟩⟩⟩⟩⟩⟩⟩⟩⟩
theorem lw_p32 : lw_okq (⟨"PigeonPostModel", "isTown", "(I)Z"⟩, 45) := ⟨⟨by decide +kernel, by decide +kernel⟩, List.mem_of_getElem? (i := 749) (by decide +kernel), List.mem_of_getElem? (i := 950) (by decide +kernel), List.mem_of_getElem? (i := 951) (by decide +kernel)⟩
theorem lw_p33 : lw_okq (⟨"PigeonPostModel", "isBird", "(I)Z"⟩, 45) := ⟨⟨by decide +kernel, by decide +kernel⟩, List.mem_of_getElem? (i := 749) (by decide +kernel), List.mem_of_getElem? (i := 966) (by decide +kernel), List.mem_of_getElem? (i := 967) (by decide +kernel)⟩
theorem lw_p34 : lw_okq (⟨"PigeonPostModel", "count", "(II)I"⟩, 45) := ⟨⟨by decide +kernel, by decide +kernel⟩, List.mem_of_getElem? (i := 749) (by decide +kernel), List.mem_of_getElem? (i := 978) (by decide +kernel), List.mem_of_getElem? (i := 979) (by decide +kernel)⟩
theorem lw_p35 : lw_okq (⟨"PigeonPostModel", "wrongRoad", "(II)I"⟩, 45) := ⟨⟨by decide +kernel, by decide +kernel⟩, List.mem_of_getElem? (i := 749) (by decide +kernel), List.mem_of_getElem? (i := 986) (by decide +kernel), List.mem_of_getElem? (i := 987) (by decide +kernel)⟩
theorem lw_p36 : lw_okq (⟨"PigeonPostModel", "tells", "(JJ)I"⟩, 45) := ⟨⟨by decide +kernel, by decide +kernel⟩, List.mem_of_getElem? (i := 749) (by decide +kernel), List.mem_of_getElem? (i := 993) (by decide +kernel), List.mem_of_getElem? (i := 994) (by decide +kernel)⟩
theorem lw_p37 : lw_okq (⟨"PigeonPostModel", "tryWay", "(II)V"⟩, 45) := ⟨⟨by decide +kernel, by decide +kernel⟩, List.mem_of_getElem? (i := 749) (by decide +kernel), List.mem_of_getElem? (i := 1008) (by decide +kernel), List.mem_of_getElem? (i := 1009) (by decide +kernel)⟩
theorem lw_p38 : lw_okq (⟨"PigeonPostModel", "isAhead", "(II)Z"⟩, 45) := ⟨⟨by decide +kernel, by decide +kernel⟩, List.mem_of_getElem? (i := 749) (by decide +kernel), List.mem_of_getElem? (i := 1012) (by decide +kernel), List.mem_of_getElem? (i := 1013) (by decide +kernel)⟩
theorem lw_p39 : lw_okq (⟨"PigeonPostModel", "lackOf", "(II)I"⟩, 45) := ⟨⟨by decide +kernel, by decide +kernel⟩, List.mem_of_getElem? (i := 749) (by decide +kernel), List.mem_of_getElem? (i := 1028) (by decide +kernel), List.mem_of_getElem? (i := 1029) (by decide +kernel)⟩
theorem lw_p40 : lw_okq (⟨"PigeonPostModel", "bring", "(I)J"⟩, 45) := ⟨⟨by decide +kernel, by decide +kernel⟩, List.mem_of_getElem? (i := 749) (by decide +kernel), List.mem_of_getElem? (i := 1037) (by decide +kernel), List.mem_of_getElem? (i := 1038) (by decide +kernel)⟩
theorem lw_p41 : lw_okq (⟨"PigeonPostModel", "value", "(III)J"⟩, 45) := ⟨⟨by decide +kernel, by decide +kernel⟩, List.mem_of_getElem? (i := 749) (by decide +kernel), List.mem_of_getElem? (i := 1041) (by decide +kernel), List.mem_of_getElem? (i := 1042) (by decide +kernel)⟩
theorem lw_p42 : lw_okq (⟨"PigeonPostModel", "isLetter", "(I)Z"⟩, 45) := ⟨⟨by decide +kernel, by decide +kernel⟩, List.mem_of_getElem? (i := 749) (by decide +kernel), List.mem_of_getElem? (i := 1078) (by decide +kernel), List.mem_of_getElem? (i := 1079) (by decide +kernel)⟩
def lw_privs_3 : List (MethodName × Nat) := [(⟨"PigeonPostModel", "isTown", "(I)Z"⟩, 45), (⟨"PigeonPostModel", "isBird", "(I)Z"⟩, 45), (⟨"PigeonPostModel", "count", "(II)I"⟩, 45), (⟨"PigeonPostModel", "wrongRoad", "(II)I"⟩, 45), (⟨"PigeonPostModel", "tells", "(JJ)I"⟩, 45), (⟨"PigeonPostModel", "tryWay", "(II)V"⟩, 45), (⟨"PigeonPostModel", "isAhead", "(II)Z"⟩, 45), (⟨"PigeonPostModel", "lackOf", "(II)I"⟩, 45), (⟨"PigeonPostModel", "bring", "(I)J"⟩, 45), (⟨"PigeonPostModel", "value", "(III)J"⟩, 45), (⟨"PigeonPostModel", "isLetter", "(I)Z"⟩, 45)]
theorem lw_r3 : ∀ q ∈ lw_privs_3, lw_okq q := List.forall_mem_cons.mpr ⟨lw_p32, List.forall_mem_cons.mpr ⟨lw_p33, List.forall_mem_cons.mpr ⟨lw_p34, List.forall_mem_cons.mpr ⟨lw_p35, List.forall_mem_cons.mpr ⟨lw_p36, List.forall_mem_cons.mpr ⟨lw_p37, List.forall_mem_cons.mpr ⟨lw_p38, List.forall_mem_cons.mpr ⟨lw_p39, List.forall_mem_cons.mpr ⟨lw_p40, List.forall_mem_cons.mpr ⟨lw_p41, List.forall_mem_cons.mpr ⟨lw_p42, fun _ h => absurd h List.not_mem_nil⟩⟩⟩⟩⟩⟩⟩⟩⟩⟩⟩
def lw_privs : List (MethodName × Nat) := lw_privs_1 ++ (lw_privs_2 ++ (lw_privs_3))
def lw_tbl : List Cond := k2_sels lw_privs ++ tables_1
theorem lw_privs_ok : ∀ q ∈ lw_privs, lw_okq q := by
  show ∀ q ∈ lw_privs_1 ++ (lw_privs_2 ++ (lw_privs_3)), lw_okq q
  exact List.forall_mem_append.mpr ⟨lw_r1, List.forall_mem_append.mpr ⟨lw_r2, lw_r3⟩⟩

/-! ===== classes, fields, methods: names ===== -/
def RX0 : String := "PigeonPost$Baskets"
def TX0 : u_T := fun k => match k with
  | 0 => ("PigeonPost$Baskets", "towns", "LPigeonPost$Towns;", true)
  | 1 => ("PigeonPost$Baskets", "birds", "LPigeonPost$Birds;", true)
  | 2 => ("PigeonPost$Baskets", "wanted", "[[I", true)
  | 3 => ("PigeonPost$Baskets", "worths", "[[I", true)
  | 4 => ("PigeonPost$Baskets", "gains", "[[J", true)
  | 5 => ("PigeonPost$Baskets", "choices", "[[I", true)
  | _ => ("PigeonPost$Baskets", "loads", "[I", true)
def tyX0 : Nat → FieldType := fun k => match k with
  | 0 => .object "PigeonPost$Towns"
  | 1 => .object "PigeonPost$Birds"
  | 2 => .array (.array .int)
  | 3 => .array (.array .int)
  | 4 => .array (.array .long)
  | 5 => .array (.array .int)
  | _ => .array .int
theorem nmX0 : ∀ a, a < 7 → ∀ b, b < 7 → a ≠ b → (TX0 a).2.1 ≠ (TX0 b).2.1 := by decide +kernel
theorem tyX0_ok : ∀ k, k < 7 → parseFieldDescriptor (TX0 k).2.2.1 = some (tyX0 k) := by decide +kernel
abbrev cX0_init : ByteArray := prog_2_method_1_code
def yX0_init : MethodName := ⟨RX0, "<init>", "(LPigeonPost$Towns;LPigeonPost$Birds;)V"⟩
abbrev cX0_lacked : ByteArray := prog_2_method_2_code
def yX0_lacked : MethodName := ⟨RX0, "lacked", "(II)I"⟩
abbrev cX0_plan : ByteArray := prog_2_method_3_code
def yX0_plan : MethodName := ⟨RX0, "plan", "(I)V"⟩
abbrev cX0_weighTown : ByteArray := prog_2_method_4_code
def yX0_weighTown : MethodName := ⟨RX0, "weighTown", "(III)V"⟩
abbrev cX0_worthOf : ByteArray := prog_2_method_5_code
def yX0_worthOf : MethodName := ⟨RX0, "worthOf", "(III)J"⟩
abbrev cX0_fareOf : ByteArray := prog_2_method_6_code
def yX0_fareOf : MethodName := ⟨RX0, "fareOf", "(III)J"⟩
abbrev cX0_worthTogether : ByteArray := prog_2_method_7_code
def yX0_worthTogether : MethodName := ⟨RX0, "worthTogether", "(I)I"⟩
abbrev cX0_faresTogether : ByteArray := prog_2_method_8_code
def yX0_faresTogether : MethodName := ⟨RX0, "faresTogether", "(I)I"⟩
abbrev cX0_carryOut : ByteArray := prog_2_method_9_code
def yX0_carryOut : MethodName := ⟨RX0, "carryOut", "(I)I"⟩
def RX1 : String := "PigeonPost$Birds"
def TX1 : u_T := fun k => match k with
  | 0 => ("PigeonPost$Birds", "count", "I", false)
  | 1 => ("PigeonPost$Birds", "homes", "[I", true)
  | 2 => ("PigeonPost$Birds", "towns", "[I", true)
  | 3 => ("PigeonPost$Birds", "states", "[I", true)
  | 4 => ("PigeonPost$Birds", "restUntil", "[I", true)
  | 5 => ("PigeonPost$Birds", "letters", "[I", true)
  | _ => ("PigeonPost$Birds", "waiting", "[[I", true)
def tyX1 : Nat → FieldType := fun k => match k with
  | 0 => .int
  | 1 => .array .int
  | 2 => .array .int
  | 3 => .array .int
  | 4 => .array .int
  | 5 => .array .int
  | _ => .array (.array .int)
theorem nmX1 : ∀ a, a < 7 → ∀ b, b < 7 → a ≠ b → (TX1 a).2.1 ≠ (TX1 b).2.1 := by decide +kernel
theorem tyX1_ok : ∀ k, k < 7 → parseFieldDescriptor (TX1 k).2.2.1 = some (tyX1 k) := by decide +kernel
abbrev cX1_init : ByteArray := prog_3_method_1_code
def yX1_init : MethodName := ⟨RX1, "<init>", "()V"⟩
abbrev cX1_add : ByteArray := prog_3_method_2_code
def yX1_add : MethodName := ⟨RX1, "add", "(I)I"⟩
abbrev cX1_settle : ByteArray := prog_3_method_3_code
def yX1_settle : MethodName := ⟨RX1, "settle", "(II)V"⟩
abbrev cX1_leave : ByteArray := prog_3_method_4_code
def yX1_leave : MethodName := ⟨RX1, "leave", "(I)V"⟩
abbrev cX1_canFlyOff : ByteArray := prog_3_method_5_code
def yX1_canFlyOff : MethodName := ⟨RX1, "canFlyOff", "(II)Z"⟩
abbrev cX1_flyOff : ByteArray := prog_3_method_6_code
def yX1_flyOff : MethodName := ⟨RX1, "flyOff", "(II)V"⟩
abbrev cX1_comeHome : ByteArray := prog_3_method_7_code
def yX1_comeHome : MethodName := ⟨RX1, "comeHome", "(II)V"⟩
abbrev cX1_getLost : ByteArray := prog_3_method_8_code
def yX1_getLost : MethodName := ⟨RX1, "getLost", "(I)V"⟩
abbrev cX1_waitsAtHome : ByteArray := prog_3_method_9_code
def yX1_waitsAtHome : MethodName := ⟨RX1, "waitsAtHome", "(II)Z"⟩
abbrev cX1_answer : ByteArray := prog_3_method_10_code
def yX1_answer : MethodName := ⟨RX1, "answer", "(II)I"⟩
def RX2 : String := "PigeonPost$Clocks"
def TX2 : u_T := fun k => match k with
  | 0 => ("PigeonPost$Clocks", "counts", "[I", true)
  | 1 => ("PigeonPost$Clocks", "minutes", "[[I", true)
  | _ => ("PigeonPost$Clocks", "numbers", "[[I", true)
def tyX2 : Nat → FieldType := fun k => match k with
  | 0 => .array .int
  | 1 => .array (.array .int)
  | _ => .array (.array .int)
theorem nmX2 : ∀ a, a < 3 → ∀ b, b < 3 → a ≠ b → (TX2 a).2.1 ≠ (TX2 b).2.1 := by decide +kernel
theorem tyX2_ok : ∀ k, k < 3 → parseFieldDescriptor (TX2 k).2.2.1 = some (tyX2 k) := by decide +kernel
abbrev cX2_init : ByteArray := prog_4_method_1_code
def yX2_init : MethodName := ⟨RX2, "<init>", "()V"⟩
abbrev cX2_isAboveLatest : ByteArray := prog_4_method_2_code
def yX2_isAboveLatest : MethodName := ⟨RX2, "isAboveLatest", "(III)Z"⟩
abbrev cX2_add : ByteArray := prog_4_method_3_code
def yX2_add : MethodName := ⟨RX2, "add", "(III)V"⟩
abbrev cX2_tellRight : ByteArray := prog_4_method_4_code
def yX2_tellRight : MethodName := ⟨RX2, "tellRight", "(IILPigeonPost$Fraction;)V"⟩
abbrev cX2_latestUpTo : ByteArray := prog_4_method_5_code
def yX2_latestUpTo : MethodName := ⟨RX2, "latestUpTo", "(II)I"⟩
def RX3 : String := "PigeonPost$Fraction"
def TX3 : u_T := fun k => match k with
  | 0 => ("PigeonPost$Fraction", "top", "J", false)
  | _ => ("PigeonPost$Fraction", "bottom", "J", false)
def tyX3 : Nat → FieldType := fun k => match k with
  | 0 => .long
  | _ => .long
theorem nmX3 : ∀ a, a < 2 → ∀ b, b < 2 → a ≠ b → (TX3 a).2.1 ≠ (TX3 b).2.1 := by decide +kernel
theorem tyX3_ok : ∀ k, k < 2 → parseFieldDescriptor (TX3 k).2.2.1 = some (tyX3 k) := by decide +kernel
abbrev cX3_init : ByteArray := prog_5_method_1_code
def yX3_init : MethodName := ⟨RX3, "<init>", "()V"⟩
abbrev cX3_tell : ByteArray := prog_5_method_2_code
def yX3_tell : MethodName := ⟨RX3, "tell", "(JJ)V"⟩
abbrev cX3_sign : ByteArray := prog_5_method_3_code
def yX3_sign : MethodName := ⟨RX3, "sign", "()I"⟩
abbrev cX3_commonDivisor : ByteArray := prog_5_method_4_code
def yX3_commonDivisor : MethodName := ⟨RX3, "commonDivisor", "(JJ)J"⟩
def RX4 : String := "PigeonPost$Letters"
def TX4 : u_T := fun k => match k with
  | 0 => ("PigeonPost$Letters", "count", "I", false)
  | 1 => ("PigeonPost$Letters", "lengths", "[I", true)
  | 2 => ("PigeonPost$Letters", "bytes", "[[I", true)
  | 3 => ("PigeonPost$Letters", "copies", "[[I", true)
  | 4 => ("PigeonPost$Letters", "since", "[[I", true)
  | _ => ("PigeonPost$Letters", "there", "[[J", true)
def tyX4 : Nat → FieldType := fun k => match k with
  | 0 => .int
  | 1 => .array .int
  | 2 => .array (.array .int)
  | 3 => .array (.array .int)
  | 4 => .array (.array .int)
  | _ => .array (.array .long)
theorem nmX4 : ∀ a, a < 6 → ∀ b, b < 6 → a ≠ b → (TX4 a).2.1 ≠ (TX4 b).2.1 := by decide +kernel
theorem tyX4_ok : ∀ k, k < 6 → parseFieldDescriptor (TX4 k).2.2.1 = some (tyX4 k) := by decide +kernel
abbrev cX4_init : ByteArray := prog_6_method_1_code
def yX4_init : MethodName := ⟨RX4, "<init>", "()V"⟩
abbrev cX4_add : ByteArray := prog_6_method_2_code
def yX4_add : MethodName := ⟨RX4, "add", "(I[JII)I"⟩
abbrev cX4_join : ByteArray := prog_6_method_3_code
def yX4_join : MethodName := ⟨RX4, "join", "(IIIII)Z"⟩
abbrev cX4_byteThere : ByteArray := prog_6_method_4_code
def yX4_byteThere : MethodName := ⟨RX4, "byteThere", "(III)I"⟩
abbrev cX4_allOf : ByteArray := prog_6_method_5_code
def yX4_allOf : MethodName := ⟨RX4, "allOf", "(I)J"⟩
def RX5 : String := "PigeonPost$Relays"
def TX5 : u_T := fun k => match k with
  | 0 => ("PigeonPost$Relays", "towns", "LPigeonPost$Towns;", true)
  | 1 => ("PigeonPost$Relays", "birds", "LPigeonPost$Birds;", true)
  | 2 => ("PigeonPost$Relays", "path", "[I", true)
  | 3 => ("PigeonPost$Relays", "tried", "[I", true)
  | 4 => ("PigeonPost$Relays", "most", "[I", true)
  | 5 => ("PigeonPost$Relays", "goal", "I", false)
  | 6 => ("PigeonPost$Relays", "n", "I", false)
  | 7 => ("PigeonPost$Relays", "d", "I", false)
  | 8 => ("PigeonPost$Relays", "fewest", "I", false)
  | 9 => ("PigeonPost$Relays", "leastMinutes", "I", false)
  | 10 => ("PigeonPost$Relays", "foundPath", "[I", true)
  | 11 => ("PigeonPost$Relays", "foundDoubles", "[I", true)
  | 12 => ("PigeonPost$Relays", "foundRoads", "I", false)
  | 13 => ("PigeonPost$Relays", "top", "J", false)
  | _ => ("PigeonPost$Relays", "bottom", "J", false)
def tyX5 : Nat → FieldType := fun k => match k with
  | 0 => .object "PigeonPost$Towns"
  | 1 => .object "PigeonPost$Birds"
  | 2 => .array .int
  | 3 => .array .int
  | 4 => .array .int
  | 5 => .int
  | 6 => .int
  | 7 => .int
  | 8 => .int
  | 9 => .int
  | 10 => .array .int
  | 11 => .array .int
  | 12 => .int
  | 13 => .long
  | _ => .long
theorem nmX5 : ∀ a, a < 15 → ∀ b, b < 15 → a ≠ b → (TX5 a).2.1 ≠ (TX5 b).2.1 := by decide +kernel
theorem tyX5_ok : ∀ k, k < 15 → parseFieldDescriptor (TX5 k).2.2.1 = some (tyX5 k) := by decide +kernel
abbrev cX5_init : ByteArray := prog_7_method_1_code
def yX5_init : MethodName := ⟨RX5, "<init>", "(LPigeonPost$Towns;LPigeonPost$Birds;)V"⟩
abbrev cX5_seek : ByteArray := prog_7_method_2_code
def yX5_seek : MethodName := ⟨RX5, "seek", "(IIII)I"⟩
abbrev cX5_extend : ByteArray := prog_7_method_3_code
def yX5_extend : MethodName := ⟨RX5, "extend", "(I)V"⟩
abbrev cX5_canGoOn : ByteArray := prog_7_method_4_code
def yX5_canGoOn : MethodName := ⟨RX5, "canGoOn", "(II)Z"⟩
abbrev cX5_tryDoubles : ByteArray := prog_7_method_5_code
def yX5_tryDoubles : MethodName := ⟨RX5, "tryDoubles", "(I)V"⟩
abbrev cX5_goToNextDoubles : ByteArray := prog_7_method_6_code
def yX5_goToNextDoubles : MethodName := ⟨RX5, "goToNextDoubles", "(I)V"⟩
abbrev cX5_weigh : ByteArray := prog_7_method_7_code
def yX5_weigh : MethodName := ⟨RX5, "weigh", "(II)V"⟩
abbrev cX5_isBetter : ByteArray := prog_7_method_8_code
def yX5_isBetter : MethodName := ⟨RX5, "isBetter", "(II)Z"⟩
def RX6 : String := "PigeonPost$Towns"
def TX6 : u_T := fun k => match k with
  | 0 => ("PigeonPost$Towns", "count", "I", false)
  | 1 => ("PigeonPost$Towns", "minutes", "[[I", true)
  | 2 => ("PigeonPost$Towns", "losses", "[[I", true)
  | _ => ("PigeonPost$Towns", "fares", "[[I", true)
def tyX6 : Nat → FieldType := fun k => match k with
  | 0 => .int
  | 1 => .array (.array .int)
  | 2 => .array (.array .int)
  | _ => .array (.array .int)
theorem nmX6 : ∀ a, a < 4 → ∀ b, b < 4 → a ≠ b → (TX6 a).2.1 ≠ (TX6 b).2.1 := by decide +kernel
theorem tyX6_ok : ∀ k, k < 4 → parseFieldDescriptor (TX6 k).2.2.1 = some (tyX6 k) := by decide +kernel
abbrev cX6_init : ByteArray := prog_8_method_1_code
def yX6_init : MethodName := ⟨RX6, "<init>", "()V"⟩
abbrev cX6_add : ByteArray := prog_8_method_2_code
def yX6_add : MethodName := ⟨RX6, "add", "()I"⟩
abbrev cX6_setRoad : ByteArray := prog_8_method_3_code
def yX6_setRoad : MethodName := ⟨RX6, "setRoad", "(IIII)V"⟩
abbrev cX6_isRoad : ByteArray := prog_8_method_4_code
def yX6_isRoad : MethodName := ⟨RX6, "isRoad", "(II)Z"⟩
abbrev cX6_sureTop : ByteArray := prog_8_method_5_code
def yX6_sureTop : MethodName := ⟨RX6, "sureTop", "(III)J"⟩
abbrev cX6_fewestDoubles : ByteArray := prog_8_method_6_code
def yX6_fewestDoubles : MethodName := ⟨RX6, "fewestDoubles", "(IIII)I"⟩
def RX7 : String := "PigeonPost$Trays"
def TX7 : u_T := fun k => match k with
  | 0 => ("PigeonPost$Trays", "sorts", "[I", true)
  | 1 => ("PigeonPost$Trays", "lengths", "[I", true)
  | _ => ("PigeonPost$Trays", "rows", "[[J", true)
def tyX7 : Nat → FieldType := fun k => match k with
  | 0 => .array .int
  | 1 => .array .int
  | _ => .array (.array .long)
theorem nmX7 : ∀ a, a < 3 → ∀ b, b < 3 → a ≠ b → (TX7 a).2.1 ≠ (TX7 b).2.1 := by decide +kernel
theorem tyX7_ok : ∀ k, k < 3 → parseFieldDescriptor (TX7 k).2.2.1 = some (tyX7 k) := by decide +kernel
abbrev cX7_init : ByteArray := prog_9_method_1_code
def yX7_init : MethodName := ⟨RX7, "<init>", "()V"⟩
abbrev cX7_isMissing : ByteArray := prog_9_method_2_code
def yX7_isMissing : MethodName := ⟨RX7, "isMissing", "(I)Z"⟩
abbrev cX7_make : ByteArray := prog_9_method_3_code
def yX7_make : MethodName := ⟨RX7, "make", "(III)V"⟩
abbrev cX7_put : ByteArray := prog_9_method_4_code
def yX7_put : MethodName := ⟨RX7, "put", "(IIJ)V"⟩
abbrev cX7_holds : ByteArray := prog_9_method_5_code
def yX7_holds : MethodName := ⟨RX7, "holds", "(III)Z"⟩
abbrev cX7_beginsWithBytes : ByteArray := prog_9_method_6_code
def yX7_beginsWithBytes : MethodName := ⟨RX7, "beginsWithBytes", "(II)Z"⟩
abbrev cX7_cut : ByteArray := prog_9_method_7_code
def yX7_cut : MethodName := ⟨RX7, "cut", "(JI)J"⟩
def RX8 : String := "PigeonPost"
def TX8 : u_T := fun k => match k with
  | 0 => ("PigeonPost", "fraction", "LPigeonPost$Fraction;", true)
  | 1 => ("PigeonPost", "trays", "LPigeonPost$Trays;", true)
  | 2 => ("PigeonPost", "towns", "LPigeonPost$Towns;", true)
  | 3 => ("PigeonPost", "birds", "LPigeonPost$Birds;", true)
  | 4 => ("PigeonPost", "relays", "LPigeonPost$Relays;", true)
  | 5 => ("PigeonPost", "baskets", "LPigeonPost$Baskets;", true)
  | 6 => ("PigeonPost", "letters", "LPigeonPost$Letters;", true)
  | 7 => ("PigeonPost", "clocks", "LPigeonPost$Clocks;", true)
  | 8 => ("PigeonPost", "status", "I", false)
  | _ => ("PigeonPost", "now", "I", false)
def tyX8 : Nat → FieldType := fun k => match k with
  | 0 => .object "PigeonPost$Fraction"
  | 1 => .object "PigeonPost$Trays"
  | 2 => .object "PigeonPost$Towns"
  | 3 => .object "PigeonPost$Birds"
  | 4 => .object "PigeonPost$Relays"
  | 5 => .object "PigeonPost$Baskets"
  | 6 => .object "PigeonPost$Letters"
  | 7 => .object "PigeonPost$Clocks"
  | 8 => .int
  | _ => .int
theorem nmX8 : ∀ a, a < 10 → ∀ b, b < 10 → a ≠ b → (TX8 a).2.1 ≠ (TX8 b).2.1 := by decide +kernel
theorem tyX8_ok : ∀ k, k < 10 → parseFieldDescriptor (TX8 k).2.2.1 = some (tyX8 k) := by decide +kernel
abbrev cX8_init : ByteArray := prog_1_method_1_code
def yX8_init : MethodName := ⟨RX8, "<init>", "()V"⟩
abbrev cX8_status : ByteArray := prog_1_method_2_code
def yX8_status : MethodName := ⟨RX8, "status", "()I"⟩
abbrev cX8_top : ByteArray := prog_1_method_3_code
def yX8_top : MethodName := ⟨RX8, "top", "()J"⟩
abbrev cX8_bottom : ByteArray := prog_1_method_4_code
def yX8_bottom : MethodName := ⟨RX8, "bottom", "()J"⟩
abbrev cX8_tray : ByteArray := prog_1_method_5_code
def yX8_tray : MethodName := ⟨RX8, "tray", "(III)Z"⟩
abbrev cX8_write : ByteArray := prog_1_method_6_code
def yX8_write : MethodName := ⟨RX8, "write", "(IIJ)Z"⟩
abbrev cX8_read : ByteArray := prog_1_method_7_code
def yX8_read : MethodName := ⟨RX8, "read", "(II)J"⟩
abbrev cX8_pour : ByteArray := prog_1_method_8_code
def yX8_pour : MethodName := ⟨RX8, "pour", "(IIIII)Z"⟩
abbrev cX8_town : ByteArray := prog_1_method_9_code
def yX8_town : MethodName := ⟨RX8, "town", "()I"⟩
abbrev cX8_road : ByteArray := prog_1_method_10_code
def yX8_road : MethodName := ⟨RX8, "road", "(IIII)Z"⟩
abbrev cX8_fare : ByteArray := prog_1_method_11_code
def yX8_fare : MethodName := ⟨RX8, "fare", "(III)Z"⟩
abbrev cX8_bird : ByteArray := prog_1_method_12_code
def yX8_bird : MethodName := ⟨RX8, "bird", "(I)I"⟩
abbrev cX8_carry : ByteArray := prog_1_method_13_code
def yX8_carry : MethodName := ⟨RX8, "carry", "(II)Z"⟩
abbrev cX8_told : ByteArray := prog_1_method_14_code
def yX8_told : MethodName := ⟨RX8, "told", "(II)I"⟩
abbrev cX8_waits : ByteArray := prog_1_method_15_code
def yX8_waits : MethodName := ⟨RX8, "waits", "(II)I"⟩
abbrev cX8_sure : ByteArray := prog_1_method_16_code
def yX8_sure : MethodName := ⟨RX8, "sure", "(III)I"⟩
abbrev cX8_doubles : ByteArray := prog_1_method_17_code
def yX8_doubles : MethodName := ⟨RX8, "doubles", "(IIII)I"⟩
abbrev cX8_relay : ByteArray := prog_1_method_18_code
def yX8_relay : MethodName := ⟨RX8, "relay", "(IIII)I"⟩
abbrev cX8_leg : ByteArray := prog_1_method_19_code
def yX8_leg : MethodName := ⟨RX8, "leg", "(II)I"⟩
abbrev cX8_want : ByteArray := prog_1_method_20_code
def yX8_want : MethodName := ⟨RX8, "want", "(IIII)Z"⟩
abbrev cX8_lack : ByteArray := prog_1_method_21_code
def yX8_lack : MethodName := ⟨RX8, "lack", "(II)I"⟩
abbrev cX8_carrying : ByteArray := prog_1_method_22_code
def yX8_carrying : MethodName := ⟨RX8, "carrying", "(I)I"⟩
abbrev cX8_carried : ByteArray := prog_1_method_23_code
def yX8_carried : MethodName := ⟨RX8, "carried", "(II)I"⟩
abbrev cX8_fares : ByteArray := prog_1_method_24_code
def yX8_fares : MethodName := ⟨RX8, "fares", "(I)I"⟩
abbrev cX8_send : ByteArray := prog_1_method_25_code
def yX8_send : MethodName := ⟨RX8, "send", "(I)I"⟩
abbrev cX8_letter : ByteArray := prog_1_method_26_code
def yX8_letter : MethodName := ⟨RX8, "letter", "(IIII)I"⟩
abbrev cX8_fly : ByteArray := prog_1_method_27_code
def yX8_fly : MethodName := ⟨RX8, "fly", "(III)Z"⟩
abbrev cX8_comes : ByteArray := prog_1_method_28_code
def yX8_comes : MethodName := ⟨RX8, "comes", "(IIII)I"⟩
abbrev cX8_lose : ByteArray := prog_1_method_29_code
def yX8_lose : MethodName := ⟨RX8, "lose", "(II)Z"⟩
abbrev cX8_knows : ByteArray := prog_1_method_30_code
def yX8_knows : MethodName := ⟨RX8, "knows", "(II)I"⟩
abbrev cX8_joined : ByteArray := prog_1_method_31_code
def yX8_joined : MethodName := ⟨RX8, "joined", "(III)I"⟩
abbrev cX8_copies : ByteArray := prog_1_method_32_code
def yX8_copies : MethodName := ⟨RX8, "copies", "(II)I"⟩
abbrev cX8_reading : ByteArray := prog_1_method_33_code
def yX8_reading : MethodName := ⟨RX8, "reading", "(III)Z"⟩
abbrev cX8_right : ByteArray := prog_1_method_34_code
def yX8_right : MethodName := ⟨RX8, "right", "(II)I"⟩
abbrev cX8_placeFault : ByteArray := prog_1_method_35_code
def yX8_placeFault : MethodName := ⟨RX8, "placeFault", "(II)I"⟩
abbrev cX8_pourFault : ByteArray := prog_1_method_36_code
def yX8_pourFault : MethodName := ⟨RX8, "pourFault", "(IIIII)I"⟩
abbrev cX8_roadFault : ByteArray := prog_1_method_37_code
def yX8_roadFault : MethodName := ⟨RX8, "roadFault", "(IIII)I"⟩
abbrev cX8_birdFault : ByteArray := prog_1_method_38_code
def yX8_birdFault : MethodName := ⟨RX8, "birdFault", "(I)I"⟩
abbrev cX8_carryFault : ByteArray := prog_1_method_39_code
def yX8_carryFault : MethodName := ⟨RX8, "carryFault", "(II)I"⟩
abbrev cX8_sureFault : ByteArray := prog_1_method_40_code
def yX8_sureFault : MethodName := ⟨RX8, "sureFault", "(III)I"⟩
abbrev cX8_legFault : ByteArray := prog_1_method_41_code
def yX8_legFault : MethodName := ⟨RX8, "legFault", "(II)I"⟩
abbrev cX8_letterFault : ByteArray := prog_1_method_42_code
def yX8_letterFault : MethodName := ⟨RX8, "letterFault", "(IIII)I"⟩
abbrev cX8_flyFault : ByteArray := prog_1_method_43_code
def yX8_flyFault : MethodName := ⟨RX8, "flyFault", "(III)I"⟩
abbrev cX8_comesFault : ByteArray := prog_1_method_44_code
def yX8_comesFault : MethodName := ⟨RX8, "comesFault", "(IIII)I"⟩
abbrev cX8_loseFault : ByteArray := prog_1_method_45_code
def yX8_loseFault : MethodName := ⟨RX8, "loseFault", "(II)I"⟩
abbrev cX8_joinedFault : ByteArray := prog_1_method_46_code
def yX8_joinedFault : MethodName := ⟨RX8, "joinedFault", "(III)I"⟩
abbrev cX8_readingFault : ByteArray := prog_1_method_47_code
def yX8_readingFault : MethodName := ⟨RX8, "readingFault", "(III)I"⟩
abbrev cX8_rightFault : ByteArray := prog_1_method_48_code
def yX8_rightFault : MethodName := ⟨RX8, "rightFault", "(II)I"⟩
abbrev cX8_wrongUnless : ByteArray := prog_1_method_49_code
def yX8_wrongUnless : MethodName := ⟨RX8, "wrongUnless", "(Z)I"⟩
abbrev cX8_within : ByteArray := prog_1_method_50_code
def yX8_within : MethodName := ⟨RX8, "within", "(III)Z"⟩
abbrev cX8_isTray : ByteArray := prog_1_method_51_code
def yX8_isTray : MethodName := ⟨RX8, "isTray", "(I)Z"⟩
abbrev cX8_isMinute : ByteArray := prog_1_method_52_code
def yX8_isMinute : MethodName := ⟨RX8, "isMinute", "(I)Z"⟩
abbrev cX8_isChance : ByteArray := prog_1_method_53_code
def yX8_isChance : MethodName := ⟨RX8, "isChance", "(II)Z"⟩
abbrev cX8_isTown : ByteArray := prog_1_method_54_code
def yX8_isTown : MethodName := ⟨RX8, "isTown", "(I)Z"⟩
abbrev cX8_areTwoTowns : ByteArray := prog_1_method_55_code
def yX8_areTwoTowns : MethodName := ⟨RX8, "areTwoTowns", "(II)Z"⟩
abbrev cX8_isBird : ByteArray := prog_1_method_56_code
def yX8_isBird : MethodName := ⟨RX8, "isBird", "(I)Z"⟩
abbrev cX8_isLetter : ByteArray := prog_1_method_57_code
def yX8_isLetter : MethodName := ⟨RX8, "isLetter", "(I)Z"⟩
abbrev cX8_isTear : ByteArray := prog_1_method_58_code
def yX8_isTear : MethodName := ⟨RX8, "isTear", "(III)Z"⟩
abbrev cX8_power : ByteArray := prog_1_method_59_code
def yX8_power : MethodName := ⟨RX8, "power", "(JI)J"⟩
def RX9 : String := "PigeonPostModel"
def TX9 : u_T := fun k => match k with
  | 0 => ("PigeonPostModel", "status", "I", false)
  | 1 => ("PigeonPostModel", "top", "J", false)
  | 2 => ("PigeonPostModel", "bottom", "J", false)
  | 3 => ("PigeonPostModel", "sort", "[I", true)
  | 4 => ("PigeonPostModel", "many", "[I", true)
  | 5 => ("PigeonPostModel", "trays", "[J", true)
  | 6 => ("PigeonPostModel", "towns", "I", false)
  | 7 => ("PigeonPostModel", "birds", "I", false)
  | 8 => ("PigeonPostModel", "now", "I", false)
  | 9 => ("PigeonPostModel", "minutes", "[I", true)
  | 10 => ("PigeonPostModel", "loss", "[I", true)
  | 11 => ("PigeonPostModel", "fare", "[I", true)
  | 12 => ("PigeonPostModel", "wanted", "[I", true)
  | 13 => ("PigeonPostModel", "worth", "[I", true)
  | 14 => ("PigeonPostModel", "home", "[I", true)
  | 15 => ("PigeonPostModel", "where", "[I", true)
  | 16 => ("PigeonPostModel", "state", "[I", true)
  | 17 => ("PigeonPostModel", "rest", "[I", true)
  | 18 => ("PigeonPostModel", "has", "[I", true)
  | 19 => ("PigeonPostModel", "way", "[I", true)
  | 20 => ("PigeonPostModel", "times", "[I", true)
  | 21 => ("PigeonPostModel", "bestWay", "[I", true)
  | 22 => ("PigeonPostModel", "bestTimes", "[I", true)
  | 23 => ("PigeonPostModel", "foundWay", "[I", true)
  | 24 => ("PigeonPostModel", "foundTimes", "[I", true)
  | 25 => ("PigeonPostModel", "roads", "I", false)
  | 26 => ("PigeonPostModel", "bestRoads", "I", false)
  | 27 => ("PigeonPostModel", "foundRoads", "I", false)
  | 28 => ("PigeonPostModel", "bestBirds", "I", false)
  | 29 => ("PigeonPostModel", "bestMinutes", "I", false)
  | 30 => ("PigeonPostModel", "bestTop", "J", false)
  | 31 => ("PigeonPostModel", "bestBottom", "J", false)
  | 32 => ("PigeonPostModel", "best", "[J", true)
  | 33 => ("PigeonPostModel", "goes", "[I", true)
  | 34 => ("PigeonPostModel", "letters", "I", false)
  | 35 => ("PigeonPostModel", "size", "[I", true)
  | 36 => ("PigeonPostModel", "flown", "[I", true)
  | 37 => ("PigeonPostModel", "come", "[I", true)
  | 38 => ("PigeonPostModel", "lost", "[I", true)
  | 39 => ("PigeonPostModel", "bytes", "[I", true)
  | 40 => ("PigeonPostModel", "known", "[I", true)
  | 41 => ("PigeonPostModel", "isThere", "[Z", true)
  | 42 => ("PigeonPostModel", "readings", "[I", true)
  | 43 => ("PigeonPostModel", "trueAt", "[I", true)
  | _ => ("PigeonPostModel", "toldAt", "[I", true)
def tyX9 : Nat → FieldType := fun k => match k with
  | 0 => .int
  | 1 => .long
  | 2 => .long
  | 3 => .array .int
  | 4 => .array .int
  | 5 => .array .long
  | 6 => .int
  | 7 => .int
  | 8 => .int
  | 9 => .array .int
  | 10 => .array .int
  | 11 => .array .int
  | 12 => .array .int
  | 13 => .array .int
  | 14 => .array .int
  | 15 => .array .int
  | 16 => .array .int
  | 17 => .array .int
  | 18 => .array .int
  | 19 => .array .int
  | 20 => .array .int
  | 21 => .array .int
  | 22 => .array .int
  | 23 => .array .int
  | 24 => .array .int
  | 25 => .int
  | 26 => .int
  | 27 => .int
  | 28 => .int
  | 29 => .int
  | 30 => .long
  | 31 => .long
  | 32 => .array .long
  | 33 => .array .int
  | 34 => .int
  | 35 => .array .int
  | 36 => .array .int
  | 37 => .array .int
  | 38 => .array .int
  | 39 => .array .int
  | 40 => .array .int
  | 41 => .array .boolean
  | 42 => .array .int
  | 43 => .array .int
  | _ => .array .int
theorem nmX9 : ∀ a, a < 45 → ∀ b, b < 45 → a ≠ b → (TX9 a).2.1 ≠ (TX9 b).2.1 := by decide +kernel
theorem tyX9_ok : ∀ k, k < 45 → parseFieldDescriptor (TX9 k).2.2.1 = some (tyX9 k) := by decide +kernel
abbrev cX9_init : ByteArray := prog_11_method_1_code
def yX9_init : MethodName := ⟨RX9, "<init>", "()V"⟩
abbrev cX9_status : ByteArray := prog_11_method_2_code
def yX9_status : MethodName := ⟨RX9, "status", "()I"⟩
abbrev cX9_top : ByteArray := prog_11_method_3_code
def yX9_top : MethodName := ⟨RX9, "top", "()J"⟩
abbrev cX9_bottom : ByteArray := prog_11_method_4_code
def yX9_bottom : MethodName := ⟨RX9, "bottom", "()J"⟩
abbrev cX9_is : ByteArray := prog_11_method_5_code
def yX9_is : MethodName := ⟨RX9, "is", "(I)Z"⟩
abbrev cX9_refuse : ByteArray := prog_11_method_6_code
def yX9_refuse : MethodName := ⟨RX9, "refuse", "(I)I"⟩
abbrev cX9_isTray : ByteArray := prog_11_method_7_code
def yX9_isTray : MethodName := ⟨RX9, "isTray", "(I)Z"⟩
abbrev cX9_cut : ByteArray := prog_11_method_8_code
def yX9_cut : MethodName := ⟨RX9, "cut", "(JI)J"⟩
abbrev cX9_tray : ByteArray := prog_11_method_9_code
def yX9_tray : MethodName := ⟨RX9, "tray", "(III)Z"⟩
abbrev cX9_wrong : ByteArray := prog_11_method_10_code
def yX9_wrong : MethodName := ⟨RX9, "wrong", "(II)I"⟩
abbrev cX9_write : ByteArray := prog_11_method_11_code
def yX9_write : MethodName := ⟨RX9, "write", "(IIJ)Z"⟩
abbrev cX9_read : ByteArray := prog_11_method_12_code
def yX9_read : MethodName := ⟨RX9, "read", "(II)J"⟩
abbrev cX9_pour : ByteArray := prog_11_method_13_code
def yX9_pour : MethodName := ⟨RX9, "pour", "(IIIII)Z"⟩
abbrev cX9_isTown : ByteArray := prog_11_method_14_code
def yX9_isTown : MethodName := ⟨RX9, "isTown", "(I)Z"⟩
abbrev cX9_isBird : ByteArray := prog_11_method_15_code
def yX9_isBird : MethodName := ⟨RX9, "isBird", "(I)Z"⟩
abbrev cX9_at : ByteArray := prog_11_method_16_code
def yX9_at : MethodName := ⟨RX9, "at", "(II)I"⟩
abbrev cX9_town : ByteArray := prog_11_method_17_code
def yX9_town : MethodName := ⟨RX9, "town", "()I"⟩
abbrev cX9_road : ByteArray := prog_11_method_18_code
def yX9_road : MethodName := ⟨RX9, "road", "(IIII)Z"⟩
abbrev cX9_fare : ByteArray := prog_11_method_19_code
def yX9_fare : MethodName := ⟨RX9, "fare", "(III)Z"⟩
abbrev cX9_bird : ByteArray := prog_11_method_20_code
def yX9_bird : MethodName := ⟨RX9, "bird", "(I)I"⟩
abbrev cX9_carry : ByteArray := prog_11_method_21_code
def yX9_carry : MethodName := ⟨RX9, "carry", "(II)Z"⟩
abbrev cX9_told : ByteArray := prog_11_method_22_code
def yX9_told : MethodName := ⟨RX9, "told", "(II)I"⟩
abbrev cX9_count : ByteArray := prog_11_method_23_code
def yX9_count : MethodName := ⟨RX9, "count", "(II)I"⟩
abbrev cX9_waits : ByteArray := prog_11_method_24_code
def yX9_waits : MethodName := ⟨RX9, "waits", "(II)I"⟩
abbrev cX9_power : ByteArray := prog_11_method_25_code
def yX9_power : MethodName := ⟨RX9, "power", "(II)J"⟩
abbrev cX9_tells : ByteArray := prog_11_method_26_code
def yX9_tells : MethodName := ⟨RX9, "tells", "(JJ)I"⟩
abbrev cX9_wrongRoad : ByteArray := prog_11_method_27_code
def yX9_wrongRoad : MethodName := ⟨RX9, "wrongRoad", "(II)I"⟩
abbrev cX9_sure : ByteArray := prog_11_method_28_code
def yX9_sure : MethodName := ⟨RX9, "sure", "(III)I"⟩
abbrev cX9_isShare : ByteArray := prog_11_method_29_code
def yX9_isShare : MethodName := ⟨RX9, "isShare", "(II)Z"⟩
abbrev cX9_doubles : ByteArray := prog_11_method_30_code
def yX9_doubles : MethodName := ⟨RX9, "doubles", "(IIII)I"⟩
abbrev cX9_isAhead : ByteArray := prog_11_method_31_code
def yX9_isAhead : MethodName := ⟨RX9, "isAhead", "(II)Z"⟩
abbrev cX9_tryWay : ByteArray := prog_11_method_32_code
def yX9_tryWay : MethodName := ⟨RX9, "tryWay", "(II)V"⟩
abbrev cX9_relay : ByteArray := prog_11_method_33_code
def yX9_relay : MethodName := ⟨RX9, "relay", "(IIII)I"⟩
abbrev cX9_leg : ByteArray := prog_11_method_34_code
def yX9_leg : MethodName := ⟨RX9, "leg", "(II)I"⟩
abbrev cX9_want : ByteArray := prog_11_method_35_code
def yX9_want : MethodName := ⟨RX9, "want", "(IIII)Z"⟩
abbrev cX9_lackOf : ByteArray := prog_11_method_36_code
def yX9_lackOf : MethodName := ⟨RX9, "lackOf", "(II)I"⟩
abbrev cX9_lack : ByteArray := prog_11_method_37_code
def yX9_lack : MethodName := ⟨RX9, "lack", "(II)I"⟩
abbrev cX9_bring : ByteArray := prog_11_method_38_code
def yX9_bring : MethodName := ⟨RX9, "bring", "(I)J"⟩
abbrev cX9_value : ByteArray := prog_11_method_39_code
def yX9_value : MethodName := ⟨RX9, "value", "(III)J"⟩
abbrev cX9_carrying : ByteArray := prog_11_method_40_code
def yX9_carrying : MethodName := ⟨RX9, "carrying", "(I)I"⟩
abbrev cX9_carried : ByteArray := prog_11_method_41_code
def yX9_carried : MethodName := ⟨RX9, "carried", "(II)I"⟩
abbrev cX9_fares : ByteArray := prog_11_method_42_code
def yX9_fares : MethodName := ⟨RX9, "fares", "(I)I"⟩
abbrev cX9_send : ByteArray := prog_11_method_43_code
def yX9_send : MethodName := ⟨RX9, "send", "(I)I"⟩
abbrev cX9_isLetter : ByteArray := prog_11_method_44_code
def yX9_isLetter : MethodName := ⟨RX9, "isLetter", "(I)Z"⟩
abbrev cX9_isMinute : ByteArray := prog_11_method_45_code
def yX9_isMinute : MethodName := ⟨RX9, "isMinute", "(I)Z"⟩
abbrev cX9_place : ByteArray := prog_11_method_46_code
def yX9_place : MethodName := ⟨RX9, "place", "(II)I"⟩
abbrev cX9_letter : ByteArray := prog_11_method_47_code
def yX9_letter : MethodName := ⟨RX9, "letter", "(IIII)I"⟩
abbrev cX9_fly : ByteArray := prog_11_method_48_code
def yX9_fly : MethodName := ⟨RX9, "fly", "(III)Z"⟩
abbrev cX9_comes : ByteArray := prog_11_method_49_code
def yX9_comes : MethodName := ⟨RX9, "comes", "(IIII)I"⟩
abbrev cX9_lose : ByteArray := prog_11_method_50_code
def yX9_lose : MethodName := ⟨RX9, "lose", "(II)Z"⟩
abbrev cX9_knows : ByteArray := prog_11_method_51_code
def yX9_knows : MethodName := ⟨RX9, "knows", "(II)I"⟩
abbrev cX9_joined : ByteArray := prog_11_method_52_code
def yX9_joined : MethodName := ⟨RX9, "joined", "(III)I"⟩
abbrev cX9_copies : ByteArray := prog_11_method_53_code
def yX9_copies : MethodName := ⟨RX9, "copies", "(II)I"⟩
abbrev cX9_reading : ByteArray := prog_11_method_54_code
def yX9_reading : MethodName := ⟨RX9, "reading", "(III)Z"⟩
abbrev cX9_right : ByteArray := prog_11_method_55_code
def yX9_right : MethodName := ⟨RX9, "right", "(II)I"⟩
def RJ13 : String := "java/lang/Long"
def TJ13 : u_T := fun k => match k with
  | _ => ("", "", "", false)
def tyJ13 : Nat → FieldType := fun k => match k with
  | _ => .int
theorem nmJ13 : ∀ a, a < 0 → ∀ b, b < 0 → a ≠ b → (TJ13 a).2.1 ≠ (TJ13 b).2.1 := by decide +kernel
theorem tyJ13_ok : ∀ k, k < 0 → parseFieldDescriptor (TJ13 k).2.2.1 = some (tyJ13 k) := by decide +kernel
abbrev cJ13_compare_74951 : ByteArray := prog_12_method_42_code
def yJ13_compare_74951 : MethodName := ⟨RJ13, "compare", "(JJ)I"⟩
def RJ9 : String := "java/lang/Math"
def TJ9 : u_T := fun k => match k with
  | _ => ("", "", "", false)
def tyJ9 : Nat → FieldType := fun k => match k with
  | _ => .int
theorem nmJ9 : ∀ a, a < 0 → ∀ b, b < 0 → a ≠ b → (TJ9 a).2.1 ≠ (TJ9 b).2.1 := by decide +kernel
theorem tyJ9_ok : ∀ k, k < 0 → parseFieldDescriptor (TJ9 k).2.2.1 = some (tyJ9 k) := by decide +kernel
abbrev cJ9_abs_067f4 : ByteArray := prog_13_method_61_code
def yJ9_abs_067f4 : MethodName := ⟨RJ9, "abs", "(J)J"⟩
abbrev cJ9_max_7cf53 : ByteArray := prog_13_method_65_code
def yJ9_max_7cf53 : MethodName := ⟨RJ9, "max", "(II)I"⟩
abbrev cJ9_max_f86c9 : ByteArray := prog_13_method_66_code
def yJ9_max_f86c9 : MethodName := ⟨RJ9, "max", "(JJ)J"⟩
abbrev cJ9_min_7cf53 : ByteArray := prog_13_method_69_code
def yJ9_min_7cf53 : MethodName := ⟨RJ9, "min", "(II)I"⟩
def RJ10 : String := "java/lang/System"
def TJ10 : u_T := fun k => match k with
  | _ => ("", "", "", false)
def tyJ10 : Nat → FieldType := fun k => match k with
  | _ => .int
theorem nmJ10 : ∀ a, a < 0 → ∀ b, b < 0 → a ≠ b → (TJ10 a).2.1 ≠ (TJ10 b).2.1 := by decide +kernel
theorem tyJ10_ok : ∀ k, k < 0 → parseFieldDescriptor (TJ10 k).2.2.1 = some (tyJ10 k) := by decide +kernel
def RJ7 : String := "java/util/Arrays"
def TJ7 : u_T := fun k => match k with
  | _ => ("", "", "", false)
def tyJ7 : Nat → FieldType := fun k => match k with
  | _ => .int
theorem nmJ7 : ∀ a, a < 0 → ∀ b, b < 0 → a ≠ b → (TJ7 a).2.1 ≠ (TJ7 b).2.1 := by decide +kernel
theorem tyJ7_ok : ∀ k, k < 0 → parseFieldDescriptor (TJ7 k).2.2.1 = some (tyJ7 k) := by decide +kernel
abbrev cJ7_fill_d0a16 : ByteArray := prog_15_method_101_code
def yJ7_fill_d0a16 : MethodName := ⟨RJ7, "fill", "([JJ)V"⟩
abbrev cJ7_fill_53178 : ByteArray := prog_15_method_103_code
def yJ7_fill_53178 : MethodName := ⟨RJ7, "fill", "([II)V"⟩
def RL : String := "PigeonPostLaw"
abbrev cL_law : ByteArray := code
def yL_law : MethodName := ⟨RL, "law", "([I)Z"⟩
abbrev zCl : List vw_C := [(RX0, TX0, 7), (RX1, TX1, 7), (RX2, TX2, 3), (RX3, TX3, 2), (RX4, TX4, 6), (RX5, TX5, 15), (RX6, TX6, 4), (RX7, TX7, 3), (RX8, TX8, 10), (RX9, TX9, 45)]
def zW : List Cond := lw_tbl.filter goodWord
def zNst : List Cond := [.methodLinkNest "PigeonPost" 9 ⟨"PigeonPost$Fraction", "<init>", "()V"⟩ "PigeonPost", .fieldLinkNest "PigeonPost" 74 "PigeonPost$Fraction" "top" "J" "PigeonPost", .fieldLinkNest "PigeonPost" 78 "PigeonPost$Fraction" "bottom" "J" "PigeonPost", .fieldLinkNest "PigeonPost" 305 "PigeonPost$Trays" "sorts" "[I" "PigeonPost", .fieldLinkNest "PigeonPost" 302 "PigeonPost$Trays" "lengths" "[I" "PigeonPost", .fieldLinkNest "PigeonPost" 107 "PigeonPost$Trays" "rows" "[[J" "PigeonPost", .fieldLinkNest "PigeonPost$Relays" 65 "PigeonPost$Towns" "count" "I" "PigeonPost", .fieldLinkNest "PigeonPost" 121 "PigeonPost$Towns" "count" "I" "PigeonPost", .fieldLinkNest "PigeonPost$Relays" 92 "PigeonPost$Towns" "minutes" "[[I" "PigeonPost", .fieldLinkNest "PigeonPost$Baskets" 66 "PigeonPost$Towns" "fares" "[[I" "PigeonPost", .fieldLinkNest "PigeonPost" 140 "PigeonPost$Towns" "fares" "[[I" "PigeonPost", .methodLinkNest "PigeonPost" 32 ⟨"PigeonPost$Birds", "<init>", "()V"⟩ "PigeonPost", .fieldLinkNest "PigeonPost$Baskets" 71 "PigeonPost$Birds" "count" "I" "PigeonPost", .fieldLinkNest "PigeonPost" 314 "PigeonPost$Birds" "count" "I" "PigeonPost", .fieldLinkNest "PigeonPost" 259 "PigeonPost$Birds" "homes" "[I" "PigeonPost", .fieldLinkNest "PigeonPost" 331 "PigeonPost$Birds" "towns" "[I" "PigeonPost", .fieldLinkNest "PigeonPost" 315 "PigeonPost$Birds" "states" "[I" "PigeonPost", .fieldLinkNest "PigeonPost" 257 "PigeonPost$Birds" "letters" "[I" "PigeonPost", .fieldLinkNest "PigeonPost$Baskets" 39 "PigeonPost$Birds" "waiting" "[[I" "PigeonPost", .fieldLinkNest "PigeonPost$Relays" 80 "PigeonPost$Birds" "waiting" "[[I" "PigeonPost", .fieldLinkNest "PigeonPost" 170 "PigeonPost$Birds" "waiting" "[[I" "PigeonPost", .fieldLinkNest "PigeonPost" 212 "PigeonPost$Relays" "foundPath" "[I" "PigeonPost", .fieldLinkNest "PigeonPost" 208 "PigeonPost$Relays" "foundDoubles" "[I" "PigeonPost", .fieldLinkNest "PigeonPost" 318 "PigeonPost$Relays" "foundRoads" "I" "PigeonPost", .fieldLinkNest "PigeonPost" 203 "PigeonPost$Relays" "top" "J" "PigeonPost", .fieldLinkNest "PigeonPost" 204 "PigeonPost$Relays" "bottom" "J" "PigeonPost", .fieldLinkNest "PigeonPost" 215 "PigeonPost$Baskets" "wanted" "[[I" "PigeonPost", .fieldLinkNest "PigeonPost" 218 "PigeonPost$Baskets" "worths" "[[I" "PigeonPost", .fieldLinkNest "PigeonPost" 230 "PigeonPost$Baskets" "loads" "[I" "PigeonPost", .methodLinkNest "PigeonPost" 55 ⟨"PigeonPost$Letters", "<init>", "()V"⟩ "PigeonPost", .fieldLinkNest "PigeonPost" 327 "PigeonPost$Letters" "count" "I" "PigeonPost", .fieldLinkNest "PigeonPost" 336 "PigeonPost$Letters" "lengths" "[I" "PigeonPost", .fieldLinkNest "PigeonPost" 251 "PigeonPost$Letters" "copies" "[[I" "PigeonPost", .fieldLinkNest "PigeonPost" 278 "PigeonPost$Letters" "since" "[[I" "PigeonPost", .methodLinkNest "PigeonPost" 62 ⟨"PigeonPost$Clocks", "<init>", "()V"⟩ "PigeonPost", .fieldLinkNest "PigeonPost" 341 "PigeonPost$Clocks" "counts" "[I" "PigeonPost", .methodLinkNest "PigeonPost$Towns" 34 ⟨"PigeonPost", "power", "(JI)J"⟩ "PigeonPost", .methodLinkNest "PigeonPost$Relays" 108 ⟨"PigeonPost", "power", "(JI)J"⟩ "PigeonPost"]
def zNsh : Cond → Bool := fun w => match w with
  | .fieldLinkNest .. => true
  | .methodLinkNest .. => true
  | _ => false
theorem zNst_shape : zNst.all zNsh = true := by decide +kernel
theorem zNst_on : ∀ w ∈ zNst, w.onTables = true := by decide +kernel
theorem zNst_in : ∀ w ∈ zNst, w ∈ lw_tbl := by
  intro w hw
  have h : [68, 73, 75, 93, 95, 97, 117, 118, 120, 123, 124, 136, 142, 143, 145, 147, 149, 152, 154, 155, 156, 189, 191, 193, 195, 197, 240, 242, 246, 264, 271, 273, 276, 278, 295, 301, 507, 572].map (fun i => lw_tbl[i]?) = zNst.map some := by decide +kernel
  have h1 : some w ∈ [68, 73, 75, 93, 95, 97, 117, 118, 120, 123, 124, 136, 142, 143, 145, 147, 149, 152, 154, 155, 156, 189, 191, 193, 195, 197, 240, 242, 246, 264, 271, 273, 276, 278, 295, 301, 507, 572].map (fun i => lw_tbl[i]?) := by rw [h]; exact List.mem_map.mpr ⟨w, hw, rfl⟩
  obtain ⟨i, -, hi⟩ := List.mem_map.mp h1
  exact List.mem_of_getElem? hi
