/-- a private method of a class that the tables say can be made, by its rows of tables_1 -/
def lw_okq (q : MethodName × Nat) : Prop := (q.1.cls ≠ "java/lang/invoke/MethodHandle" ∧ q.1.cls ≠ "java/lang/invoke/VarHandle") ∧ Cond.instantiable q.1.cls q.2 ∈ tables_1 ∧ Cond.privateMethod q.1 ∈ tables_1 ∧ Cond.instanceMethod q.1 ∈ tables_1
theorem lw_p0 : lw_okq (⟨"NoneMinds$Reader", "readItem", "(LNoneMinds$Menu;)Z"⟩, 4) := ⟨⟨by decide +kernel, by decide +kernel⟩, List.mem_of_getElem? (i := 25) (by decide +kernel), List.mem_of_getElem? (i := 251) (by decide +kernel), List.mem_of_getElem? (i := 252) (by decide +kernel)⟩
theorem lw_p1 : lw_okq (⟨"NoneMinds$Reader", "peek", "()I"⟩, 4) := ⟨⟨by decide +kernel, by decide +kernel⟩, List.mem_of_getElem? (i := 25) (by decide +kernel), List.mem_of_getElem? (i := 255) (by decide +kernel), List.mem_of_getElem? (i := 256) (by decide +kernel)⟩
theorem lw_p2 : lw_okq (⟨"NoneMinds$Reader", "readDishes", "(LNoneMinds$Menu;)Z"⟩, 4) := ⟨⟨by decide +kernel, by decide +kernel⟩, List.mem_of_getElem? (i := 25) (by decide +kernel), List.mem_of_getElem? (i := 259) (by decide +kernel), List.mem_of_getElem? (i := 260) (by decide +kernel)⟩
theorem lw_p3 : lw_okq (⟨"NoneMinds$Reader", "number", "()I"⟩, 4) := ⟨⟨by decide +kernel, by decide +kernel⟩, List.mem_of_getElem? (i := 25) (by decide +kernel), List.mem_of_getElem? (i := 263) (by decide +kernel), List.mem_of_getElem? (i := 264) (by decide +kernel)⟩
theorem lw_p4 : lw_okq (⟨"NoneMinds$Reader", "figure", "()I"⟩, 4) := ⟨⟨by decide +kernel, by decide +kernel⟩, List.mem_of_getElem? (i := 25) (by decide +kernel), List.mem_of_getElem? (i := 267) (by decide +kernel), List.mem_of_getElem? (i := 268) (by decide +kernel)⟩
theorem lw_p5 : lw_okq (⟨"NoneMinds$Reader", "skip", "(I)Z"⟩, 4) := ⟨⟨by decide +kernel, by decide +kernel⟩, List.mem_of_getElem? (i := 25) (by decide +kernel), List.mem_of_getElem? (i := 274) (by decide +kernel), List.mem_of_getElem? (i := 275) (by decide +kernel)⟩
theorem lw_p6 : lw_okq (⟨"NoneMinds$Reader", "readGuest", "(LNoneMinds$Menu;)Z"⟩, 4) := ⟨⟨by decide +kernel, by decide +kernel⟩, List.mem_of_getElem? (i := 25) (by decide +kernel), List.mem_of_getElem? (i := 278) (by decide +kernel), List.mem_of_getElem? (i := 279) (by decide +kernel)⟩
theorem lw_p7 : lw_okq (⟨"NoneMinds$Reader", "readMinutes", "(LNoneMinds$Menu;)Z"⟩, 4) := ⟨⟨by decide +kernel, by decide +kernel⟩, List.mem_of_getElem? (i := 25) (by decide +kernel), List.mem_of_getElem? (i := 282) (by decide +kernel), List.mem_of_getElem? (i := 283) (by decide +kernel)⟩
theorem lw_p8 : lw_okq (⟨"NoneMinds$Reader", "readVetoes", "(LNoneMinds$Menu;)Z"⟩, 4) := ⟨⟨by decide +kernel, by decide +kernel⟩, List.mem_of_getElem? (i := 25) (by decide +kernel), List.mem_of_getElem? (i := 290) (by decide +kernel), List.mem_of_getElem? (i := 291) (by decide +kernel)⟩
theorem lw_p9 : lw_okq (⟨"NoneMinds$Reader", "readShuts", "(LNoneMinds$Menu;)Z"⟩, 4) := ⟨⟨by decide +kernel, by decide +kernel⟩, List.mem_of_getElem? (i := 25) (by decide +kernel), List.mem_of_getElem? (i := 294) (by decide +kernel), List.mem_of_getElem? (i := 295) (by decide +kernel)⟩
theorem lw_p10 : lw_okq (⟨"NoneMinds$Reader", "readHunger", "(LNoneMinds$Menu;)Z"⟩, 4) := ⟨⟨by decide +kernel, by decide +kernel⟩, List.mem_of_getElem? (i := 25) (by decide +kernel), List.mem_of_getElem? (i := 298) (by decide +kernel), List.mem_of_getElem? (i := 299) (by decide +kernel)⟩
theorem lw_p11 : lw_okq (⟨"NoneMinds", "vetoesLeft", "(LNoneMinds$Table;I)I"⟩, 9) := ⟨⟨by decide +kernel, by decide +kernel⟩, List.mem_of_getElem? (i := 17) (by decide +kernel), List.mem_of_getElem? (i := 367) (by decide +kernel), List.mem_of_getElem? (i := 368) (by decide +kernel)⟩
theorem lw_p12 : lw_okq (⟨"NoneMinds", "now", "()LNoneMinds$Moment;"⟩, 9) := ⟨⟨by decide +kernel, by decide +kernel⟩, List.mem_of_getElem? (i := 17) (by decide +kernel), List.mem_of_getElem? (i := 375) (by decide +kernel), List.mem_of_getElem? (i := 376) (by decide +kernel)⟩
theorem lw_p13 : lw_okq (⟨"NoneMinds", "at", "(II)LNoneMinds$Moment;"⟩, 9) := ⟨⟨by decide +kernel, by decide +kernel⟩, List.mem_of_getElem? (i := 17) (by decide +kernel), List.mem_of_getElem? (i := 379) (by decide +kernel), List.mem_of_getElem? (i := 380) (by decide +kernel)⟩
theorem lw_p14 : lw_okq (⟨"NoneMinds$Pile", "dropLowest", "()V"⟩, 2) := ⟨⟨by decide +kernel, by decide +kernel⟩, List.mem_of_getElem? (i := 68) (by decide +kernel), List.mem_of_getElem? (i := 455) (by decide +kernel), List.mem_of_getElem? (i := 456) (by decide +kernel)⟩
theorem lw_p15 : lw_okq (⟨"NoneMinds$Pile", "get", "(I)LNoneMinds$Table;"⟩, 2) := ⟨⟨by decide +kernel, by decide +kernel⟩, List.mem_of_getElem? (i := 68) (by decide +kernel), List.mem_of_getElem? (i := 459) (by decide +kernel), List.mem_of_getElem? (i := 460) (by decide +kernel)⟩
def lw_privs_1 : List (MethodName × Nat) := [(⟨"NoneMinds$Reader", "readItem", "(LNoneMinds$Menu;)Z"⟩, 4), (⟨"NoneMinds$Reader", "peek", "()I"⟩, 4), (⟨"NoneMinds$Reader", "readDishes", "(LNoneMinds$Menu;)Z"⟩, 4), (⟨"NoneMinds$Reader", "number", "()I"⟩, 4), (⟨"NoneMinds$Reader", "figure", "()I"⟩, 4), (⟨"NoneMinds$Reader", "skip", "(I)Z"⟩, 4), (⟨"NoneMinds$Reader", "readGuest", "(LNoneMinds$Menu;)Z"⟩, 4), (⟨"NoneMinds$Reader", "readMinutes", "(LNoneMinds$Menu;)Z"⟩, 4), (⟨"NoneMinds$Reader", "readVetoes", "(LNoneMinds$Menu;)Z"⟩, 4), (⟨"NoneMinds$Reader", "readShuts", "(LNoneMinds$Menu;)Z"⟩, 4), (⟨"NoneMinds$Reader", "readHunger", "(LNoneMinds$Menu;)Z"⟩, 4), (⟨"NoneMinds", "vetoesLeft", "(LNoneMinds$Table;I)I"⟩, 9), (⟨"NoneMinds", "now", "()LNoneMinds$Moment;"⟩, 9), (⟨"NoneMinds", "at", "(II)LNoneMinds$Moment;"⟩, 9), (⟨"NoneMinds$Pile", "dropLowest", "()V"⟩, 2), (⟨"NoneMinds$Pile", "get", "(I)LNoneMinds$Table;"⟩, 2)]
theorem lw_r1 : ∀ q ∈ lw_privs_1, lw_okq q := List.forall_mem_cons.mpr ⟨lw_p0, List.forall_mem_cons.mpr ⟨lw_p1, List.forall_mem_cons.mpr ⟨lw_p2, List.forall_mem_cons.mpr ⟨lw_p3, List.forall_mem_cons.mpr ⟨lw_p4, List.forall_mem_cons.mpr ⟨lw_p5, List.forall_mem_cons.mpr ⟨lw_p6, List.forall_mem_cons.mpr ⟨lw_p7, List.forall_mem_cons.mpr ⟨lw_p8, List.forall_mem_cons.mpr ⟨lw_p9, List.forall_mem_cons.mpr ⟨lw_p10, List.forall_mem_cons.mpr ⟨lw_p11, List.forall_mem_cons.mpr ⟨lw_p12, List.forall_mem_cons.mpr ⟨lw_p13, List.forall_mem_cons.mpr ⟨lw_p14, List.forall_mem_cons.mpr ⟨lw_p15, fun _ h => absurd h List.not_mem_nil⟩⟩⟩⟩⟩⟩⟩⟩⟩⟩⟩⟩⟩⟩⟩⟩
theorem lw_p16 : lw_okq (⟨"NoneMinds", "dishesLeft", "(LNoneMinds$Table;)I"⟩, 9) := ⟨⟨by decide +kernel, by decide +kernel⟩, List.mem_of_getElem? (i := 17) (by decide +kernel), List.mem_of_getElem? (i := 474) (by decide +kernel), List.mem_of_getElem? (i := 475) (by decide +kernel)⟩
theorem lw_p17 : lw_okq (⟨"NoneMinds$Moment", "fairRank", "(I)I"⟩, 3) := ⟨⟨by decide +kernel, by decide +kernel⟩, List.mem_of_getElem? (i := 167) (by decide +kernel), List.mem_of_getElem? (i := 522) (by decide +kernel), List.mem_of_getElem? (i := 523) (by decide +kernel)⟩
theorem lw_p18 : lw_okq (⟨"NoneMinds", "isOnOffer", "(I)Z"⟩, 9) := ⟨⟨by decide +kernel, by decide +kernel⟩, List.mem_of_getElem? (i := 17) (by decide +kernel), List.mem_of_getElem? (i := 535) (by decide +kernel), List.mem_of_getElem? (i := 536) (by decide +kernel)⟩
theorem lw_p19 : lw_okq (⟨"NoneMinds$Moment", "winsAgainstAll", "(I)Z"⟩, 3) := ⟨⟨by decide +kernel, by decide +kernel⟩, List.mem_of_getElem? (i := 167) (by decide +kernel), List.mem_of_getElem? (i := 554) (by decide +kernel), List.mem_of_getElem? (i := 555) (by decide +kernel)⟩
theorem lw_p20 : lw_okq (⟨"NoneMinds$Moment", "worstAlone", "(I)I"⟩, 3) := ⟨⟨by decide +kernel, by decide +kernel⟩, List.mem_of_getElem? (i := 167) (by decide +kernel), List.mem_of_getElem? (i := 568) (by decide +kernel), List.mem_of_getElem? (i := 569) (by decide +kernel)⟩
theorem lw_p21 : lw_okq (⟨"NoneMinds", "agreesWithNotes", "(II)Z"⟩, 9) := ⟨⟨by decide +kernel, by decide +kernel⟩, List.mem_of_getElem? (i := 17) (by decide +kernel), List.mem_of_getElem? (i := 628) (by decide +kernel), List.mem_of_getElem? (i := 629) (by decide +kernel)⟩
theorem lw_p22 : lw_okq (⟨"NoneMinds", "pretend", "(I)V"⟩, 9) := ⟨⟨by decide +kernel, by decide +kernel⟩, List.mem_of_getElem? (i := 17) (by decide +kernel), List.mem_of_getElem? (i := 677) (by decide +kernel), List.mem_of_getElem? (i := 678) (by decide +kernel)⟩
theorem lw_p23 : lw_okq (⟨"NoneMindsModel", "empty", "()V"⟩, 15) := ⟨⟨by decide +kernel, by decide +kernel⟩, List.mem_of_getElem? (i := 694) (by decide +kernel), List.mem_of_getElem? (i := 700) (by decide +kernel), List.mem_of_getElem? (i := 701) (by decide +kernel)⟩
theorem lw_p24 : lw_okq (⟨"NoneMindsModel", "firstGuest", "(III)V"⟩, 15) := ⟨⟨by decide +kernel, by decide +kernel⟩, List.mem_of_getElem? (i := 694) (by decide +kernel), List.mem_of_getElem? (i := 704) (by decide +kernel), List.mem_of_getElem? (i := 705) (by decide +kernel)⟩
theorem lw_p25 : lw_okq (⟨"NoneMindsModel", "begin", "()V"⟩, 15) := ⟨⟨by decide +kernel, by decide +kernel⟩, List.mem_of_getElem? (i := 694) (by decide +kernel), List.mem_of_getElem? (i := 708) (by decide +kernel), List.mem_of_getElem? (i := 709) (by decide +kernel)⟩
theorem lw_p26 : lw_okq (⟨"NoneMindsModel", "readAll", "()I"⟩, 15) := ⟨⟨by decide +kernel, by decide +kernel⟩, List.mem_of_getElem? (i := 694) (by decide +kernel), List.mem_of_getElem? (i := 775) (by decide +kernel), List.mem_of_getElem? (i := 776) (by decide +kernel)⟩
theorem lw_p27 : lw_okq (⟨"NoneMindsModel", "item", "()Z"⟩, 15) := ⟨⟨by decide +kernel, by decide +kernel⟩, List.mem_of_getElem? (i := 694) (by decide +kernel), List.mem_of_getElem? (i := 779) (by decide +kernel), List.mem_of_getElem? (i := 780) (by decide +kernel)⟩
theorem lw_p28 : lw_okq (⟨"NoneMindsModel", "letterAt", "(I)I"⟩, 15) := ⟨⟨by decide +kernel, by decide +kernel⟩, List.mem_of_getElem? (i := 694) (by decide +kernel), List.mem_of_getElem? (i := 783) (by decide +kernel), List.mem_of_getElem? (i := 784) (by decide +kernel)⟩
theorem lw_p29 : lw_okq (⟨"NoneMindsModel", "one", "(III)Z"⟩, 15) := ⟨⟨by decide +kernel, by decide +kernel⟩, List.mem_of_getElem? (i := 694) (by decide +kernel), List.mem_of_getElem? (i := 787) (by decide +kernel), List.mem_of_getElem? (i := 788) (by decide +kernel)⟩
theorem lw_p30 : lw_okq (⟨"NoneMindsModel", "numbers", "(I)Z"⟩, 15) := ⟨⟨by decide +kernel, by decide +kernel⟩, List.mem_of_getElem? (i := 694) (by decide +kernel), List.mem_of_getElem? (i := 791) (by decide +kernel), List.mem_of_getElem? (i := 792) (by decide +kernel)⟩
theorem lw_p31 : lw_okq (⟨"NoneMindsModel", "guestItem", "()Z"⟩, 15) := ⟨⟨by decide +kernel, by decide +kernel⟩, List.mem_of_getElem? (i := 694) (by decide +kernel), List.mem_of_getElem? (i := 798) (by decide +kernel), List.mem_of_getElem? (i := 799) (by decide +kernel)⟩
def lw_privs_2 : List (MethodName × Nat) := [(⟨"NoneMinds", "dishesLeft", "(LNoneMinds$Table;)I"⟩, 9), (⟨"NoneMinds$Moment", "fairRank", "(I)I"⟩, 3), (⟨"NoneMinds", "isOnOffer", "(I)Z"⟩, 9), (⟨"NoneMinds$Moment", "winsAgainstAll", "(I)Z"⟩, 3), (⟨"NoneMinds$Moment", "worstAlone", "(I)I"⟩, 3), (⟨"NoneMinds", "agreesWithNotes", "(II)Z"⟩, 9), (⟨"NoneMinds", "pretend", "(I)V"⟩, 9), (⟨"NoneMindsModel", "empty", "()V"⟩, 15), (⟨"NoneMindsModel", "firstGuest", "(III)V"⟩, 15), (⟨"NoneMindsModel", "begin", "()V"⟩, 15), (⟨"NoneMindsModel", "readAll", "()I"⟩, 15), (⟨"NoneMindsModel", "item", "()Z"⟩, 15), (⟨"NoneMindsModel", "letterAt", "(I)I"⟩, 15), (⟨"NoneMindsModel", "one", "(III)Z"⟩, 15), (⟨"NoneMindsModel", "numbers", "(I)Z"⟩, 15), (⟨"NoneMindsModel", "guestItem", "()Z"⟩, 15)]
theorem lw_r2 : ∀ q ∈ lw_privs_2, lw_okq q := List.forall_mem_cons.mpr ⟨lw_p16, List.forall_mem_cons.mpr ⟨lw_p17, List.forall_mem_cons.mpr ⟨lw_p18, List.forall_mem_cons.mpr ⟨lw_p19, List.forall_mem_cons.mpr ⟨lw_p20, List.forall_mem_cons.mpr ⟨lw_p21, List.forall_mem_cons.mpr ⟨lw_p22, List.forall_mem_cons.mpr ⟨lw_p23, List.forall_mem_cons.mpr ⟨lw_p24, List.forall_mem_cons.mpr ⟨lw_p25, List.forall_mem_cons.mpr ⟨lw_p26, List.forall_mem_cons.mpr ⟨lw_p27, List.forall_mem_cons.mpr ⟨lw_p28, List.forall_mem_cons.mpr ⟨lw_p29, List.forall_mem_cons.mpr ⟨lw_p30, List.forall_mem_cons.mpr ⟨lw_p31, fun _ h => absurd h List.not_mem_nil⟩⟩⟩⟩⟩⟩⟩⟩⟩⟩⟩⟩⟩⟩⟩⟩
theorem lw_p32 : lw_okq (⟨"NoneMindsModel", "isGuest", "(I)Z"⟩, 15) := ⟨⟨by decide +kernel, by decide +kernel⟩, List.mem_of_getElem? (i := 694) (by decide +kernel), List.mem_of_getElem? (i := 813) (by decide +kernel), List.mem_of_getElem? (i := 814) (by decide +kernel)⟩
theorem lw_p33 : lw_okq (⟨"NoneMindsModel", "hasHeart", "(IIIII)Z"⟩, 15) := ⟨⟨by decide +kernel, by decide +kernel⟩, List.mem_of_getElem? (i := 694) (by decide +kernel), List.mem_of_getElem? (i := 817) (by decide +kernel), List.mem_of_getElem? (i := 818) (by decide +kernel)⟩
theorem lw_p34 : lw_okq (⟨"NoneMindsModel", "worthAt", "(III)I"⟩, 15) := ⟨⟨by decide +kernel, by decide +kernel⟩, List.mem_of_getElem? (i := 694) (by decide +kernel), List.mem_of_getElem? (i := 824) (by decide +kernel), List.mem_of_getElem? (i := 825) (by decide +kernel)⟩
theorem lw_p35 : lw_okq (⟨"NoneMindsModel", "leftBy", "(I)I"⟩, 15) := ⟨⟨by decide +kernel, by decide +kernel⟩, List.mem_of_getElem? (i := 694) (by decide +kernel), List.mem_of_getElem? (i := 828) (by decide +kernel), List.mem_of_getElem? (i := 829) (by decide +kernel)⟩
theorem lw_p36 : lw_okq (⟨"NoneMindsModel", "mostOf", "(III)I"⟩, 15) := ⟨⟨by decide +kernel, by decide +kernel⟩, List.mem_of_getElem? (i := 694) (by decide +kernel), List.mem_of_getElem? (i := 832) (by decide +kernel), List.mem_of_getElem? (i := 833) (by decide +kernel)⟩
theorem lw_p37 : lw_okq (⟨"NoneMindsModel", "isDish", "(I)Z"⟩, 15) := ⟨⟨by decide +kernel, by decide +kernel⟩, List.mem_of_getElem? (i := 694) (by decide +kernel), List.mem_of_getElem? (i := 840) (by decide +kernel), List.mem_of_getElem? (i := 841) (by decide +kernel)⟩
theorem lw_p38 : lw_okq (⟨"NoneMindsModel", "sumOf", "(III)I"⟩, 15) := ⟨⟨by decide +kernel, by decide +kernel⟩, List.mem_of_getElem? (i := 694) (by decide +kernel), List.mem_of_getElem? (i := 844) (by decide +kernel), List.mem_of_getElem? (i := 845) (by decide +kernel)⟩
theorem lw_p39 : lw_okq (⟨"NoneMindsModel", "note", "()V"⟩, 15) := ⟨⟨by decide +kernel, by decide +kernel⟩, List.mem_of_getElem? (i := 694) (by decide +kernel), List.mem_of_getElem? (i := 857) (by decide +kernel), List.mem_of_getElem? (i := 858) (by decide +kernel)⟩
theorem lw_p40 : lw_okq (⟨"NoneMindsModel", "canOrder", "(II)Z"⟩, 15) := ⟨⟨by decide +kernel, by decide +kernel⟩, List.mem_of_getElem? (i := 694) (by decide +kernel), List.mem_of_getElem? (i := 872) (by decide +kernel), List.mem_of_getElem? (i := 873) (by decide +kernel)⟩
theorem lw_p41 : lw_okq (⟨"NoneMindsModel", "mostToAll", "(III)I"⟩, 15) := ⟨⟨by decide +kernel, by decide +kernel⟩, List.mem_of_getElem? (i := 694) (by decide +kernel), List.mem_of_getElem? (i := 884) (by decide +kernel), List.mem_of_getElem? (i := 885) (by decide +kernel)⟩
theorem lw_p42 : lw_okq (⟨"NoneMindsModel", "worstOff", "(I)I"⟩, 15) := ⟨⟨by decide +kernel, by decide +kernel⟩, List.mem_of_getElem? (i := 694) (by decide +kernel), List.mem_of_getElem? (i := 892) (by decide +kernel), List.mem_of_getElem? (i := 893) (by decide +kernel)⟩
theorem lw_p43 : lw_okq (⟨"NoneMindsModel", "isLeft", "(I)Z"⟩, 15) := ⟨⟨by decide +kernel, by decide +kernel⟩, List.mem_of_getElem? (i := 694) (by decide +kernel), List.mem_of_getElem? (i := 900) (by decide +kernel), List.mem_of_getElem? (i := 901) (by decide +kernel)⟩
theorem lw_p44 : lw_okq (⟨"NoneMindsModel", "lead", "(II)I"⟩, 15) := ⟨⟨by decide +kernel, by decide +kernel⟩, List.mem_of_getElem? (i := 694) (by decide +kernel), List.mem_of_getElem? (i := 904) (by decide +kernel), List.mem_of_getElem? (i := 905) (by decide +kernel)⟩
theorem lw_p45 : lw_okq (⟨"NoneMindsModel", "leastOf", "(III)I"⟩, 15) := ⟨⟨by decide +kernel, by decide +kernel⟩, List.mem_of_getElem? (i := 694) (by decide +kernel), List.mem_of_getElem? (i := 920) (by decide +kernel), List.mem_of_getElem? (i := 921) (by decide +kernel)⟩
theorem lw_p46 : lw_okq (⟨"NoneMindsModel", "bestTwo", "()I"⟩, 15) := ⟨⟨by decide +kernel, by decide +kernel⟩, List.mem_of_getElem? (i := 694) (by decide +kernel), List.mem_of_getElem? (i := 928) (by decide +kernel), List.mem_of_getElem? (i := 929) (by decide +kernel)⟩
theorem lw_p47 : lw_okq (⟨"NoneMindsModel", "both", "(II)I"⟩, 15) := ⟨⟨by decide +kernel, by decide +kernel⟩, List.mem_of_getElem? (i := 694) (by decide +kernel), List.mem_of_getElem? (i := 932) (by decide +kernel), List.mem_of_getElem? (i := 933) (by decide +kernel)⟩
def lw_privs_3 : List (MethodName × Nat) := [(⟨"NoneMindsModel", "isGuest", "(I)Z"⟩, 15), (⟨"NoneMindsModel", "hasHeart", "(IIIII)Z"⟩, 15), (⟨"NoneMindsModel", "worthAt", "(III)I"⟩, 15), (⟨"NoneMindsModel", "leftBy", "(I)I"⟩, 15), (⟨"NoneMindsModel", "mostOf", "(III)I"⟩, 15), (⟨"NoneMindsModel", "isDish", "(I)Z"⟩, 15), (⟨"NoneMindsModel", "sumOf", "(III)I"⟩, 15), (⟨"NoneMindsModel", "note", "()V"⟩, 15), (⟨"NoneMindsModel", "canOrder", "(II)Z"⟩, 15), (⟨"NoneMindsModel", "mostToAll", "(III)I"⟩, 15), (⟨"NoneMindsModel", "worstOff", "(I)I"⟩, 15), (⟨"NoneMindsModel", "isLeft", "(I)Z"⟩, 15), (⟨"NoneMindsModel", "lead", "(II)I"⟩, 15), (⟨"NoneMindsModel", "leastOf", "(III)I"⟩, 15), (⟨"NoneMindsModel", "bestTwo", "()I"⟩, 15), (⟨"NoneMindsModel", "both", "(II)I"⟩, 15)]
theorem lw_r3 : ∀ q ∈ lw_privs_3, lw_okq q := List.forall_mem_cons.mpr ⟨lw_p32, List.forall_mem_cons.mpr ⟨lw_p33, List.forall_mem_cons.mpr ⟨lw_p34, List.forall_mem_cons.mpr ⟨lw_p35, List.forall_mem_cons.mpr ⟨lw_p36, List.forall_mem_cons.mpr ⟨lw_p37, List.forall_mem_cons.mpr ⟨lw_p38, List.forall_mem_cons.mpr ⟨lw_p39, List.forall_mem_cons.mpr ⟨lw_p40, List.forall_mem_cons.mpr ⟨lw_p41, List.forall_mem_cons.mpr ⟨lw_p42, List.forall_mem_cons.mpr ⟨lw_p43, List.forall_mem_cons.mpr ⟨lw_p44, List.forall_mem_cons.mpr ⟨lw_p45, List.forall_mem_cons.mpr ⟨lw_p46, List.forall_mem_cons.mpr ⟨lw_p47, fun _ h => absurd h List.not_mem_nil⟩⟩⟩⟩⟩⟩⟩⟩⟩⟩⟩⟩⟩⟩⟩⟩
def lw_privs : List (MethodName × Nat) := lw_privs_1 ++ (lw_privs_2 ++ (lw_privs_3))
def lw_tbl : List Cond := k2_sels lw_privs ++ tables_1
theorem lw_privs_ok : ∀ q ∈ lw_privs, lw_okq q := by
  show ∀ q ∈ lw_privs_1 ++ (lw_privs_2 ++ (lw_privs_3)), lw_okq q
  exact List.forall_mem_append.mpr ⟨lw_r1, List.forall_mem_append.mpr ⟨lw_r2, lw_r3⟩⟩

def R_Menu : String := "NoneMinds$Menu"
def T_Menu : u_T := fun k => match k with
  | 0 => ("NoneMinds$Menu", "dishes", "I", false)
  | 1 => ("NoneMinds$Menu", "guests", "I", false)
  | 2 => ("NoneMinds$Menu", "vetoes", "I", false)
  | 3 => ("NoneMinds$Menu", "shuts", "I", false)
  | 4 => ("NoneMinds$Menu", "hunger", "I", false)
  | 5 => ("NoneMinds$Menu", "kinds", "[I", true)
  | 6 => ("NoneMinds$Menu", "told", "[I", true)
  | _ => ("NoneMinds$Menu", "minutes", "[I", true)
def ty_Menu : Nat → FieldType := fun k => match k with
  | 0 => .int
  | 1 => .int
  | 2 => .int
  | 3 => .int
  | 4 => .int
  | 5 => .array .int
  | 6 => .array .int
  | _ => .array .int
theorem nm_Menu : ∀ a, a < 8 → ∀ b, b < 8 → a ≠ b → (T_Menu a).2.1 ≠ (T_Menu b).2.1 := by decide +kernel
theorem tk_Menu : ∀ k, k < 8 → parseFieldDescriptor (T_Menu k).2.2.1 = some (ty_Menu k) := by decide +kernel
def R_Moment : String := "NoneMinds$Moment"
def T_Moment : u_T := fun k => match k with
  | 0 => ("NoneMinds$Moment", "menu", "LNoneMinds$Menu;", false)
  | 1 => ("NoneMinds$Moment", "minute", "I", false)
  | _ => ("NoneMinds$Moment", "left", "I", false)
def ty_Moment : Nat → FieldType := fun k => match k with
  | 0 => .object "NoneMinds$Menu"
  | 1 => .int
  | _ => .int
theorem nm_Moment : ∀ a, a < 3 → ∀ b, b < 3 → a ≠ b → (T_Moment a).2.1 ≠ (T_Moment b).2.1 := by decide +kernel
theorem tk_Moment : ∀ k, k < 3 → parseFieldDescriptor (T_Moment k).2.2.1 = some (ty_Moment k) := by decide +kernel
def R_Note : String := "NoneMinds$Note"
def T_Note : u_T := fun k => match k with
  | 0 => ("NoneMinds$Note", "guest", "I", false)
  | 1 => ("NoneMinds$Note", "dish", "I", false)
  | 2 => ("NoneMinds$Note", "heart", "Z", false)
  | 3 => ("NoneMinds$Note", "minute", "I", false)
  | _ => ("NoneMinds$Note", "vetoed", "I", false)
def ty_Note : Nat → FieldType := fun k => match k with
  | 0 => .int
  | 1 => .int
  | 2 => .boolean
  | 3 => .int
  | _ => .int
theorem nm_Note : ∀ a, a < 5 → ∀ b, b < 5 → a ≠ b → (T_Note a).2.1 ≠ (T_Note b).2.1 := by decide +kernel
theorem tk_Note : ∀ k, k < 5 → parseFieldDescriptor (T_Note k).2.2.1 = some (ty_Note k) := by decide +kernel
def R_Notes : String := "NoneMinds$Notes"
def T_Notes : u_T := fun k => match k with
  | 0 => ("NoneMinds$Notes", "size", "I", false)
  | _ => ("NoneMinds$Notes", "notes", "[LNoneMinds$Note;", true)
def ty_Notes : Nat → FieldType := fun k => match k with
  | 0 => .int
  | _ => .array (.object "NoneMinds$Note")
theorem nm_Notes : ∀ a, a < 2 → ∀ b, b < 2 → a ≠ b → (T_Notes a).2.1 ≠ (T_Notes b).2.1 := by decide +kernel
theorem tk_Notes : ∀ k, k < 2 → parseFieldDescriptor (T_Notes k).2.2.1 = some (ty_Notes k) := by decide +kernel
def R_Pile : String := "NoneMinds$Pile"
def T_Pile : u_T := fun k => match k with
  | 0 => ("NoneMinds$Pile", "size", "I", false)
  | _ => ("NoneMinds$Pile", "tables", "[LNoneMinds$Table;", true)
def ty_Pile : Nat → FieldType := fun k => match k with
  | 0 => .int
  | _ => .array (.object "NoneMinds$Table")
theorem nm_Pile : ∀ a, a < 2 → ∀ b, b < 2 → a ≠ b → (T_Pile a).2.1 ≠ (T_Pile b).2.1 := by decide +kernel
theorem tk_Pile : ∀ k, k < 2 → parseFieldDescriptor (T_Pile k).2.2.1 = some (ty_Pile k) := by decide +kernel
def R_Reader : String := "NoneMinds$Reader"
def T_Reader : u_T := fun k => match k with
  | 0 => ("NoneMinds$Reader", "letters", "[I", true)
  | 1 => ("NoneMinds$Reader", "length", "I", false)
  | 2 => ("NoneMinds$Reader", "place", "I", false)
  | _ => ("NoneMinds$Reader", "onlyDishesSoFar", "Z", false)
def ty_Reader : Nat → FieldType := fun k => match k with
  | 0 => .array .int
  | 1 => .int
  | 2 => .int
  | _ => .boolean
theorem nm_Reader : ∀ a, a < 4 → ∀ b, b < 4 → a ≠ b → (T_Reader a).2.1 ≠ (T_Reader b).2.1 := by decide +kernel
theorem tk_Reader : ∀ k, k < 4 → parseFieldDescriptor (T_Reader k).2.2.1 = some (ty_Reader k) := by decide +kernel
def R_Table : String := "NoneMinds$Table"
def T_Table : u_T := fun k => match k with
  | 0 => ("NoneMinds$Table", "minute", "I", false)
  | 1 => ("NoneMinds$Table", "vetoed", "I", false)
  | 2 => ("NoneMinds$Table", "ordered", "I", false)
  | _ => ("NoneMinds$Table", "spent", "I", false)
def ty_Table : Nat → FieldType := fun k => match k with
  | 0 => .int
  | 1 => .int
  | 2 => .int
  | _ => .int
theorem nm_Table : ∀ a, a < 4 → ∀ b, b < 4 → a ≠ b → (T_Table a).2.1 ≠ (T_Table b).2.1 := by decide +kernel
theorem tk_Table : ∀ k, k < 4 → parseFieldDescriptor (T_Table k).2.2.1 = some (ty_Table k) := by decide +kernel
def R_Nm : String := "NoneMinds"
def T_Nm : u_T := fun k => match k with
  | 0 => ("NoneMinds", "text", "LNoneMinds$Reader;", true)
  | 1 => ("NoneMinds", "table", "LNoneMinds$Table;", true)
  | 2 => ("NoneMinds", "pretended", "LNoneMinds$Table;", true)
  | 3 => ("NoneMinds", "moment", "LNoneMinds$Moment;", true)
  | 4 => ("NoneMinds", "past", "LNoneMinds$Pile;", true)
  | 5 => ("NoneMinds", "kept", "LNoneMinds$Pile;", true)
  | 6 => ("NoneMinds", "notes", "LNoneMinds$Notes;", true)
  | 7 => ("NoneMinds", "laid", "LNoneMinds$Menu;", false)
  | _ => ("NoneMinds", "draft", "LNoneMinds$Menu;", false)
def ty_Nm : Nat → FieldType := fun k => match k with
  | 0 => .object "NoneMinds$Reader"
  | 1 => .object "NoneMinds$Table"
  | 2 => .object "NoneMinds$Table"
  | 3 => .object "NoneMinds$Moment"
  | 4 => .object "NoneMinds$Pile"
  | 5 => .object "NoneMinds$Pile"
  | 6 => .object "NoneMinds$Notes"
  | 7 => .object "NoneMinds$Menu"
  | _ => .object "NoneMinds$Menu"
theorem nm_Nm : ∀ a, a < 9 → ∀ b, b < 9 → a ≠ b → (T_Nm a).2.1 ≠ (T_Nm b).2.1 := by decide +kernel
theorem tk_Nm : ∀ k, k < 9 → parseFieldDescriptor (T_Nm k).2.2.1 = some (ty_Nm k) := by decide +kernel
def R_Mo : String := "NoneMindsModel"
def T_Mo : u_T := fun k => match k with
  | 0 => ("NoneMindsModel", "length", "I", false)
  | 1 => ("NoneMindsModel", "text", "[I", true)
  | 2 => ("NoneMindsModel", "table", "[I", true)
  | 3 => ("NoneMindsModel", "read", "[I", true)
  | 4 => ("NoneMindsModel", "hasItem", "Z", false)
  | 5 => ("NoneMindsModel", "now", "[I", true)
  | 6 => ("NoneMindsModel", "before", "[I", true)
  | 7 => ("NoneMindsModel", "undoMany", "I", false)
  | 8 => ("NoneMindsModel", "kept", "[I", true)
  | 9 => ("NoneMindsModel", "keptMany", "I", false)
  | 10 => ("NoneMindsModel", "heard", "[I", true)
  | 11 => ("NoneMindsModel", "heardMany", "I", false)
  | 12 => ("NoneMindsModel", "spot", "I", false)
  | 13 => ("NoneMindsModel", "told", "[I", true)
  | _ => ("NoneMindsModel", "vetoes", "[I", true)
def ty_Mo : Nat → FieldType := fun k => match k with
  | 0 => .int
  | 1 => .array .int
  | 2 => .array .int
  | 3 => .array .int
  | 4 => .boolean
  | 5 => .array .int
  | 6 => .array .int
  | 7 => .int
  | 8 => .array .int
  | 9 => .int
  | 10 => .array .int
  | 11 => .int
  | 12 => .int
  | 13 => .array .int
  | _ => .array .int
theorem nm_Mo : ∀ a, a < 15 → ∀ b, b < 15 → a ≠ b → (T_Mo a).2.1 ≠ (T_Mo b).2.1 := by decide +kernel
theorem tk_Mo : ∀ k, k < 15 → parseFieldDescriptor (T_Mo k).2.2.1 = some (ty_Mo k) := by decide +kernel
def R_Int : String := "java/lang/Integer"
def R_Math : String := "java/lang/Math"
def R_Str : String := "java/lang/String"
def R_SLa : String := "java/lang/StringLatin1"
def R_SUt : String := "java/lang/StringUTF16"
def R_Pre : String := "jdk/internal/util/Preconditions"
def R_law : String := "NoneMindsLaw"
abbrev b_Menu_init : ByteArray := prog_2_method_1_code
def y_Menu_init : MethodName := ⟨R_Menu, "<init>", "()V"⟩
abbrev b_Menu_clear : ByteArray := prog_2_method_2_code
def y_Menu_clear : MethodName := ⟨R_Menu, "clear", "()V"⟩
abbrev b_Menu_hasGuest : ByteArray := prog_2_method_3_code
def y_Menu_hasGuest : MethodName := ⟨R_Menu, "hasGuest", "(I)Z"⟩
abbrev b_Menu_hasDish : ByteArray := prog_2_method_4_code
def y_Menu_hasDish : MethodName := ⟨R_Menu, "hasDish", "(I)Z"⟩
abbrev b_Menu_allDishes : ByteArray := prog_2_method_5_code
def y_Menu_allDishes : MethodName := ⟨R_Menu, "allDishes", "()I"⟩
abbrev b_Menu_kindOf : ByteArray := prog_2_method_6_code
def y_Menu_kindOf : MethodName := ⟨R_Menu, "kindOf", "(I)I"⟩
abbrev b_Menu_minutesOf : ByteArray := prog_2_method_7_code
def y_Menu_minutesOf : MethodName := ⟨R_Menu, "minutesOf", "(I)I"⟩
abbrev b_Menu_isInTime : ByteArray := prog_2_method_8_code
def y_Menu_isInTime : MethodName := ⟨R_Menu, "isInTime", "(II)Z"⟩
abbrev b_Menu_toldWorth : ByteArray := prog_2_method_9_code
def y_Menu_toldWorth : MethodName := ⟨R_Menu, "toldWorth", "(II)I"⟩
abbrev b_Moment_init : ByteArray := prog_3_method_1_code
def y_Moment_init : MethodName := ⟨R_Moment, "<init>", "(LNoneMinds$Menu;)V"⟩
abbrev b_Moment_value : ByteArray := prog_3_method_2_code
def y_Moment_value : MethodName := ⟨R_Moment, "value", "(II)I"⟩
abbrev b_Moment_together : ByteArray := prog_3_method_3_code
def y_Moment_together : MethodName := ⟨R_Moment, "together", "(II)I"⟩
abbrev b_Moment_leastWorth : ByteArray := prog_3_method_4_code
def y_Moment_leastWorth : MethodName := ⟨R_Moment, "leastWorth", "(I)I"⟩
abbrev b_Moment_opponent : ByteArray := prog_3_method_5_code
def y_Moment_opponent : MethodName := ⟨R_Moment, "opponent", "(I)I"⟩
abbrev b_Moment_favourite : ByteArray := prog_3_method_6_code
def y_Moment_favourite : MethodName := ⟨R_Moment, "favourite", "(I)I"⟩
abbrev b_Moment_leastLiked : ByteArray := prog_3_method_7_code
def y_Moment_leastLiked : MethodName := ⟨R_Moment, "leastLiked", "(II)I"⟩
abbrev b_Moment_gives : ByteArray := prog_3_method_8_code
def y_Moment_gives : MethodName := ⟨R_Moment, "gives", "(III)Z"⟩
abbrev b_Moment_heartsOf : ByteArray := prog_3_method_9_code
def y_Moment_heartsOf : MethodName := ⟨R_Moment, "heartsOf", "(I)I"⟩
abbrev b_Moment_heartsOn : ByteArray := prog_3_method_10_code
def y_Moment_heartsOn : MethodName := ⟨R_Moment, "heartsOn", "(I)I"⟩
abbrev b_Moment_mostDish : ByteArray := prog_3_method_11_code
def y_Moment_mostDish : MethodName := ⟨R_Moment, "mostDish", "(I)I"⟩
abbrev b_Moment_fairDish : ByteArray := prog_3_method_12_code
def y_Moment_fairDish : MethodName := ⟨R_Moment, "fairDish", "()I"⟩
abbrev b_Moment_fairRank : ByteArray := prog_3_method_13_code
def y_Moment_fairRank : MethodName := ⟨R_Moment, "fairRank", "(I)I"⟩
abbrev b_Moment_lead : ByteArray := prog_3_method_14_code
def y_Moment_lead : MethodName := ⟨R_Moment, "lead", "(II)I"⟩
abbrev b_Moment_winner : ByteArray := prog_3_method_15_code
def y_Moment_winner : MethodName := ⟨R_Moment, "winner", "()I"⟩
abbrev b_Moment_winsAgainstAll : ByteArray := prog_3_method_16_code
def y_Moment_winsAgainstAll : MethodName := ⟨R_Moment, "winsAgainstAll", "(I)Z"⟩
abbrev b_Moment_nobodysWorst : ByteArray := prog_3_method_17_code
def y_Moment_nobodysWorst : MethodName := ⟨R_Moment, "nobodysWorst", "()I"⟩
abbrev b_Moment_worstAlone : ByteArray := prog_3_method_18_code
def y_Moment_worstAlone : MethodName := ⟨R_Moment, "worstAlone", "(I)I"⟩
abbrev b_Moment_lastStanding : ByteArray := prog_3_method_19_code
def y_Moment_lastStanding : MethodName := ⟨R_Moment, "lastStanding", "(I)I"⟩
abbrev b_Moment_bestPair : ByteArray := prog_3_method_20_code
def y_Moment_bestPair : MethodName := ⟨R_Moment, "bestPair", "()I"⟩
abbrev b_Moment_pairWorth : ByteArray := prog_3_method_21_code
def y_Moment_pairWorth : MethodName := ⟨R_Moment, "pairWorth", "(II)I"⟩
abbrev b_Moment_welcomeDishes : ByteArray := prog_3_method_22_code
def y_Moment_welcomeDishes : MethodName := ⟨R_Moment, "welcomeDishes", "()I"⟩
abbrev b_Moment_isIn : ByteArray := prog_3_method_23_code
def y_Moment_isIn : MethodName := ⟨R_Moment, "isIn", "(II)Z"⟩
abbrev b_Note_init : ByteArray := prog_4_method_1_code
def y_Note_init : MethodName := ⟨R_Note, "<init>", "()V"⟩
abbrev b_Notes_init : ByteArray := prog_5_method_1_code
def y_Notes_init : MethodName := ⟨R_Notes, "<init>", "()V"⟩
abbrev b_Notes_get : ByteArray := prog_5_method_2_code
def y_Notes_get : MethodName := ⟨R_Notes, "get", "(I)LNoneMinds$Note;"⟩
abbrev b_Notes_next : ByteArray := prog_5_method_3_code
def y_Notes_next : MethodName := ⟨R_Notes, "next", "()LNoneMinds$Note;"⟩
abbrev b_Pile_init : ByteArray := prog_6_method_1_code
def y_Pile_init : MethodName := ⟨R_Pile, "<init>", "(I)V"⟩
abbrev b_Pile_push : ByteArray := prog_6_method_2_code
def y_Pile_push : MethodName := ⟨R_Pile, "push", "(LNoneMinds$Table;)V"⟩
abbrev b_Pile_popInto : ByteArray := prog_6_method_3_code
def y_Pile_popInto : MethodName := ⟨R_Pile, "popInto", "(LNoneMinds$Table;)Z"⟩
abbrev b_Pile_dropLowest : ByteArray := prog_6_method_4_code
def y_Pile_dropLowest : MethodName := ⟨R_Pile, "dropLowest", "()V"⟩
abbrev b_Pile_get : ByteArray := prog_6_method_5_code
def y_Pile_get : MethodName := ⟨R_Pile, "get", "(I)LNoneMinds$Table;"⟩
abbrev b_Pile_copy : ByteArray := prog_6_method_6_code
def y_Pile_copy : MethodName := ⟨R_Pile, "copy", "(LNoneMinds$Table;LNoneMinds$Table;)V"⟩
abbrev b_Reader_init : ByteArray := prog_7_method_1_code
def y_Reader_init : MethodName := ⟨R_Reader, "<init>", "()V"⟩
abbrev b_Reader_append : ByteArray := prog_7_method_2_code
def y_Reader_append : MethodName := ⟨R_Reader, "append", "(I)V"⟩
abbrev b_Reader_readInto : ByteArray := prog_7_method_3_code
def y_Reader_readInto : MethodName := ⟨R_Reader, "readInto", "(LNoneMinds$Menu;)I"⟩
abbrev b_Reader_readItem : ByteArray := prog_7_method_4_code
def y_Reader_readItem : MethodName := ⟨R_Reader, "readItem", "(LNoneMinds$Menu;)Z"⟩
abbrev b_Reader_readDishes : ByteArray := prog_7_method_5_code
def y_Reader_readDishes : MethodName := ⟨R_Reader, "readDishes", "(LNoneMinds$Menu;)Z"⟩
abbrev b_Reader_readGuest : ByteArray := prog_7_method_6_code
def y_Reader_readGuest : MethodName := ⟨R_Reader, "readGuest", "(LNoneMinds$Menu;)Z"⟩
abbrev b_Reader_readMinutes : ByteArray := prog_7_method_7_code
def y_Reader_readMinutes : MethodName := ⟨R_Reader, "readMinutes", "(LNoneMinds$Menu;)Z"⟩
abbrev b_Reader_readVetoes : ByteArray := prog_7_method_8_code
def y_Reader_readVetoes : MethodName := ⟨R_Reader, "readVetoes", "(LNoneMinds$Menu;)Z"⟩
abbrev b_Reader_readShuts : ByteArray := prog_7_method_9_code
def y_Reader_readShuts : MethodName := ⟨R_Reader, "readShuts", "(LNoneMinds$Menu;)Z"⟩
abbrev b_Reader_readHunger : ByteArray := prog_7_method_10_code
def y_Reader_readHunger : MethodName := ⟨R_Reader, "readHunger", "(LNoneMinds$Menu;)Z"⟩
abbrev b_Reader_number : ByteArray := prog_7_method_11_code
def y_Reader_number : MethodName := ⟨R_Reader, "number", "()I"⟩
abbrev b_Reader_figure : ByteArray := prog_7_method_12_code
def y_Reader_figure : MethodName := ⟨R_Reader, "figure", "()I"⟩
abbrev b_Reader_skip : ByteArray := prog_7_method_13_code
def y_Reader_skip : MethodName := ⟨R_Reader, "skip", "(I)Z"⟩
abbrev b_Reader_peek : ByteArray := prog_7_method_14_code
def y_Reader_peek : MethodName := ⟨R_Reader, "peek", "()I"⟩
abbrev b_Table_init : ByteArray := prog_8_method_1_code
def y_Table_init : MethodName := ⟨R_Table, "<init>", "()V"⟩
abbrev b_Table_clear : ByteArray := prog_8_method_2_code
def y_Table_clear : MethodName := ⟨R_Table, "clear", "()V"⟩
abbrev b_Table_copyFrom : ByteArray := prog_8_method_3_code
def y_Table_copyFrom : MethodName := ⟨R_Table, "copyFrom", "(LNoneMinds$Table;)V"⟩
abbrev b_Table_isOrdered : ByteArray := prog_8_method_4_code
def y_Table_isOrdered : MethodName := ⟨R_Table, "isOrdered", "()Z"⟩
abbrev b_Table_isVetoed : ByteArray := prog_8_method_5_code
def y_Table_isVetoed : MethodName := ⟨R_Table, "isVetoed", "(I)Z"⟩
abbrev b_Table_spentBy : ByteArray := prog_8_method_6_code
def y_Table_spentBy : MethodName := ⟨R_Table, "spentBy", "(I)I"⟩
abbrev b_Table_strike : ByteArray := prog_8_method_7_code
def y_Table_strike : MethodName := ⟨R_Table, "strike", "(II)V"⟩
abbrev b_Nm_init : ByteArray := prog_1_method_1_code
def y_Nm_init : MethodName := ⟨R_Nm, "<init>", "()V"⟩
abbrev b_Nm_write : ByteArray := prog_1_method_2_code
def y_Nm_write : MethodName := ⟨R_Nm, "write", "(I)I"⟩
abbrev b_Nm_wipe : ByteArray := prog_1_method_3_code
def y_Nm_wipe : MethodName := ⟨R_Nm, "wipe", "()I"⟩
abbrev b_Nm_fault : ByteArray := prog_1_method_4_code
def y_Nm_fault : MethodName := ⟨R_Nm, "fault", "()I"⟩
abbrev b_Nm_lay : ByteArray := prog_1_method_5_code
def y_Nm_lay : MethodName := ⟨R_Nm, "lay", "()I"⟩
abbrev b_Nm_guest : ByteArray := prog_1_method_6_code
def y_Nm_guest : MethodName := ⟨R_Nm, "guest", "(II)I"⟩
abbrev b_Nm_dish : ByteArray := prog_1_method_7_code
def y_Nm_dish : MethodName := ⟨R_Nm, "dish", "(II)I"⟩
abbrev b_Nm_worth : ByteArray := prog_1_method_8_code
def y_Nm_worth : MethodName := ⟨R_Nm, "worth", "(II)I"⟩
abbrev b_Nm_pass : ByteArray := prog_1_method_9_code
def y_Nm_pass : MethodName := ⟨R_Nm, "pass", "(I)I"⟩
abbrev b_Nm_veto : ByteArray := prog_1_method_10_code
def y_Nm_veto : MethodName := ⟨R_Nm, "veto", "(II)I"⟩
abbrev b_Nm_order : ByteArray := prog_1_method_11_code
def y_Nm_order : MethodName := ⟨R_Nm, "order", "(I)I"⟩
abbrev b_Nm_undo : ByteArray := prog_1_method_12_code
def y_Nm_undo : MethodName := ⟨R_Nm, "undo", "()I"⟩
abbrev b_Nm_most : ByteArray := prog_1_method_13_code
def y_Nm_most : MethodName := ⟨R_Nm, "most", "(I)I"⟩
abbrev b_Nm_fair : ByteArray := prog_1_method_14_code
def y_Nm_fair : MethodName := ⟨R_Nm, "fair", "(I)I"⟩
abbrev b_Nm_beats : ByteArray := prog_1_method_15_code
def y_Nm_beats : MethodName := ⟨R_Nm, "beats", "(II)I"⟩
abbrev b_Nm_champion : ByteArray := prog_1_method_16_code
def y_Nm_champion : MethodName := ⟨R_Nm, "champion", "()I"⟩
abbrev b_Nm_middle : ByteArray := prog_1_method_17_code
def y_Nm_middle : MethodName := ⟨R_Nm, "middle", "()I"⟩
abbrev b_Nm_struck : ByteArray := prog_1_method_18_code
def y_Nm_struck : MethodName := ⟨R_Nm, "struck", "(I)I"⟩
abbrev b_Nm_two : ByteArray := prog_1_method_19_code
def y_Nm_two : MethodName := ⟨R_Nm, "two", "(I)I"⟩
abbrev b_Nm_houses : ByteArray := prog_1_method_20_code
def y_Nm_houses : MethodName := ⟨R_Nm, "houses", "(I)I"⟩
abbrev b_Nm_waits : ByteArray := prog_1_method_21_code
def y_Nm_waits : MethodName := ⟨R_Nm, "waits", "(II)I"⟩
abbrev b_Nm_heard : ByteArray := prog_1_method_22_code
def y_Nm_heard : MethodName := ⟨R_Nm, "heard", "(III)I"⟩
abbrev b_Nm_forget : ByteArray := prog_1_method_23_code
def y_Nm_forget : MethodName := ⟨R_Nm, "forget", "()I"⟩
abbrev b_Nm_may : ByteArray := prog_1_method_24_code
def y_Nm_may : MethodName := ⟨R_Nm, "may", "(I)I"⟩
abbrev b_Nm_suits : ByteArray := prog_1_method_25_code
def y_Nm_suits : MethodName := ⟨R_Nm, "suits", "(I)I"⟩
abbrev b_Nm_against : ByteArray := prog_1_method_26_code
def y_Nm_against : MethodName := ⟨R_Nm, "against", "(II)I"⟩
abbrev b_Nm_ask : ByteArray := prog_1_method_27_code
def y_Nm_ask : MethodName := ⟨R_Nm, "ask", "(I)I"⟩
abbrev b_Nm_wheel : ByteArray := prog_1_method_28_code
def y_Nm_wheel : MethodName := ⟨R_Nm, "wheel", "(II)I"⟩
abbrev b_Nm_evening : ByteArray := prog_1_method_29_code
def y_Nm_evening : MethodName := ⟨R_Nm, "evening", "(III)I"⟩
abbrev b_Nm_keep : ByteArray := prog_1_method_30_code
def y_Nm_keep : MethodName := ⟨R_Nm, "keep", "()I"⟩
abbrev b_Nm_back : ByteArray := prog_1_method_31_code
def y_Nm_back : MethodName := ⟨R_Nm, "back", "()I"⟩
abbrev b_Nm_count : ByteArray := prog_1_method_32_code
def y_Nm_count : MethodName := ⟨R_Nm, "count", "(I)I"⟩
abbrev b_Nm_at : ByteArray := prog_1_method_33_code
def y_Nm_at : MethodName := ⟨R_Nm, "at", "(II)LNoneMinds$Moment;"⟩
abbrev b_Nm_now : ByteArray := prog_1_method_34_code
def y_Nm_now : MethodName := ⟨R_Nm, "now", "()LNoneMinds$Moment;"⟩
abbrev b_Nm_isOnOffer : ByteArray := prog_1_method_35_code
def y_Nm_isOnOffer : MethodName := ⟨R_Nm, "isOnOffer", "(I)Z"⟩
abbrev b_Nm_vetoesLeft : ByteArray := prog_1_method_36_code
def y_Nm_vetoesLeft : MethodName := ⟨R_Nm, "vetoesLeft", "(LNoneMinds$Table;I)I"⟩
abbrev b_Nm_dishesLeft : ByteArray := prog_1_method_37_code
def y_Nm_dishesLeft : MethodName := ⟨R_Nm, "dishesLeft", "(LNoneMinds$Table;)I"⟩
abbrev b_Nm_agreesWithNotes : ByteArray := prog_1_method_38_code
def y_Nm_agreesWithNotes : MethodName := ⟨R_Nm, "agreesWithNotes", "(II)Z"⟩
abbrev b_Nm_pretend : ByteArray := prog_1_method_39_code
def y_Nm_pretend : MethodName := ⟨R_Nm, "pretend", "(I)V"⟩
abbrev b_Nm_drawOf : ByteArray := prog_1_method_40_code
def y_Nm_drawOf : MethodName := ⟨R_Nm, "drawOf", "(II)I"⟩
abbrev b_Nm_isOutside : ByteArray := prog_1_method_41_code
def y_Nm_isOutside : MethodName := ⟨R_Nm, "isOutside", "(III)Z"⟩
abbrev b_Nm_power : ByteArray := prog_1_method_42_code
def y_Nm_power : MethodName := ⟨R_Nm, "power", "(II)I"⟩
abbrev b_Nm_commonDivisor : ByteArray := prog_1_method_43_code
def y_Nm_commonDivisor : MethodName := ⟨R_Nm, "commonDivisor", "(II)I"⟩
abbrev b_Nm_entry : ByteArray := prog_1_method_44_code
def y_Nm_entry : MethodName := ⟨R_Nm, "entry", "([II)I"⟩
abbrev b_Nm_put : ByteArray := prog_1_method_45_code
def y_Nm_put : MethodName := ⟨R_Nm, "put", "([III)V"⟩
abbrev b_Mo_init : ByteArray := prog_10_method_1_code
def y_Mo_init : MethodName := ⟨R_Mo, "<init>", "()V"⟩
abbrev b_Mo_firstGuest : ByteArray := prog_10_method_2_code
def y_Mo_firstGuest : MethodName := ⟨R_Mo, "firstGuest", "(III)V"⟩
abbrev b_Mo_in : ByteArray := prog_10_method_3_code
def y_Mo_in : MethodName := ⟨R_Mo, "in", "(JJJ)Z"⟩
abbrev b_Mo_has : ByteArray := prog_10_method_4_code
def y_Mo_has : MethodName := ⟨R_Mo, "has", "(II)Z"⟩
abbrev b_Mo_ones : ByteArray := prog_10_method_5_code
def y_Mo_ones : MethodName := ⟨R_Mo, "ones", "(I)I"⟩
abbrev b_Mo_empty : ByteArray := prog_10_method_6_code
def y_Mo_empty : MethodName := ⟨R_Mo, "empty", "()V"⟩
abbrev b_Mo_write : ByteArray := prog_10_method_7_code
def y_Mo_write : MethodName := ⟨R_Mo, "write", "(I)I"⟩
abbrev b_Mo_wipe : ByteArray := prog_10_method_8_code
def y_Mo_wipe : MethodName := ⟨R_Mo, "wipe", "()I"⟩
abbrev b_Mo_letterAt : ByteArray := prog_10_method_9_code
def y_Mo_letterAt : MethodName := ⟨R_Mo, "letterAt", "(I)I"⟩
abbrev b_Mo_numbers : ByteArray := prog_10_method_10_code
def y_Mo_numbers : MethodName := ⟨R_Mo, "numbers", "(I)Z"⟩
abbrev b_Mo_guestItem : ByteArray := prog_10_method_11_code
def y_Mo_guestItem : MethodName := ⟨R_Mo, "guestItem", "()Z"⟩
abbrev b_Mo_one : ByteArray := prog_10_method_12_code
def y_Mo_one : MethodName := ⟨R_Mo, "one", "(III)Z"⟩
abbrev b_Mo_item : ByteArray := prog_10_method_13_code
def y_Mo_item : MethodName := ⟨R_Mo, "item", "()Z"⟩
abbrev b_Mo_readAll : ByteArray := prog_10_method_14_code
def y_Mo_readAll : MethodName := ⟨R_Mo, "readAll", "()I"⟩
abbrev b_Mo_fault : ByteArray := prog_10_method_15_code
def y_Mo_fault : MethodName := ⟨R_Mo, "fault", "()I"⟩
abbrev b_Mo_lay : ByteArray := prog_10_method_16_code
def y_Mo_lay : MethodName := ⟨R_Mo, "lay", "()I"⟩
abbrev b_Mo_begin : ByteArray := prog_10_method_17_code
def y_Mo_begin : MethodName := ⟨R_Mo, "begin", "()V"⟩
abbrev b_Mo_isGuest : ByteArray := prog_10_method_18_code
def y_Mo_isGuest : MethodName := ⟨R_Mo, "isGuest", "(I)Z"⟩
abbrev b_Mo_isDish : ByteArray := prog_10_method_19_code
def y_Mo_isDish : MethodName := ⟨R_Mo, "isDish", "(I)Z"⟩
abbrev b_Mo_leftBy : ByteArray := prog_10_method_20_code
def y_Mo_leftBy : MethodName := ⟨R_Mo, "leftBy", "(I)I"⟩
abbrev b_Mo_worthAt : ByteArray := prog_10_method_21_code
def y_Mo_worthAt : MethodName := ⟨R_Mo, "worthAt", "(III)I"⟩
abbrev b_Mo_mostOf : ByteArray := prog_10_method_22_code
def y_Mo_mostOf : MethodName := ⟨R_Mo, "mostOf", "(III)I"⟩
abbrev b_Mo_leastOf : ByteArray := prog_10_method_23_code
def y_Mo_leastOf : MethodName := ⟨R_Mo, "leastOf", "(III)I"⟩
abbrev b_Mo_hasHeart : ByteArray := prog_10_method_24_code
def y_Mo_hasHeart : MethodName := ⟨R_Mo, "hasHeart", "(IIIII)Z"⟩
abbrev b_Mo_sumOf : ByteArray := prog_10_method_25_code
def y_Mo_sumOf : MethodName := ⟨R_Mo, "sumOf", "(III)I"⟩
abbrev b_Mo_mostToAll : ByteArray := prog_10_method_26_code
def y_Mo_mostToAll : MethodName := ⟨R_Mo, "mostToAll", "(III)I"⟩
abbrev b_Mo_guest : ByteArray := prog_10_method_27_code
def y_Mo_guest : MethodName := ⟨R_Mo, "guest", "(II)I"⟩
abbrev b_Mo_dish : ByteArray := prog_10_method_28_code
def y_Mo_dish : MethodName := ⟨R_Mo, "dish", "(II)I"⟩
abbrev b_Mo_worth : ByteArray := prog_10_method_29_code
def y_Mo_worth : MethodName := ⟨R_Mo, "worth", "(II)I"⟩
abbrev b_Mo_note : ByteArray := prog_10_method_30_code
def y_Mo_note : MethodName := ⟨R_Mo, "note", "()V"⟩
abbrev b_Mo_pass : ByteArray := prog_10_method_31_code
def y_Mo_pass : MethodName := ⟨R_Mo, "pass", "(I)I"⟩
abbrev b_Mo_veto : ByteArray := prog_10_method_32_code
def y_Mo_veto : MethodName := ⟨R_Mo, "veto", "(II)I"⟩
abbrev b_Mo_canOrder : ByteArray := prog_10_method_33_code
def y_Mo_canOrder : MethodName := ⟨R_Mo, "canOrder", "(II)Z"⟩
abbrev b_Mo_order : ByteArray := prog_10_method_34_code
def y_Mo_order : MethodName := ⟨R_Mo, "order", "(I)I"⟩
abbrev b_Mo_undo : ByteArray := prog_10_method_35_code
def y_Mo_undo : MethodName := ⟨R_Mo, "undo", "()I"⟩
abbrev b_Mo_most : ByteArray := prog_10_method_36_code
def y_Mo_most : MethodName := ⟨R_Mo, "most", "(I)I"⟩
abbrev b_Mo_worstOff : ByteArray := prog_10_method_37_code
def y_Mo_worstOff : MethodName := ⟨R_Mo, "worstOff", "(I)I"⟩
abbrev b_Mo_fair : ByteArray := prog_10_method_38_code
def y_Mo_fair : MethodName := ⟨R_Mo, "fair", "(I)I"⟩
abbrev b_Mo_lead : ByteArray := prog_10_method_39_code
def y_Mo_lead : MethodName := ⟨R_Mo, "lead", "(II)I"⟩
abbrev b_Mo_isLeft : ByteArray := prog_10_method_40_code
def y_Mo_isLeft : MethodName := ⟨R_Mo, "isLeft", "(I)Z"⟩
abbrev b_Mo_beats : ByteArray := prog_10_method_41_code
def y_Mo_beats : MethodName := ⟨R_Mo, "beats", "(II)I"⟩
abbrev b_Mo_champion : ByteArray := prog_10_method_42_code
def y_Mo_champion : MethodName := ⟨R_Mo, "champion", "()I"⟩
abbrev b_Mo_middle : ByteArray := prog_10_method_43_code
def y_Mo_middle : MethodName := ⟨R_Mo, "middle", "()I"⟩
abbrev b_Mo_struck : ByteArray := prog_10_method_44_code
def y_Mo_struck : MethodName := ⟨R_Mo, "struck", "(I)I"⟩
abbrev b_Mo_both : ByteArray := prog_10_method_45_code
def y_Mo_both : MethodName := ⟨R_Mo, "both", "(II)I"⟩
abbrev b_Mo_bestTwo : ByteArray := prog_10_method_46_code
def y_Mo_bestTwo : MethodName := ⟨R_Mo, "bestTwo", "()I"⟩
abbrev b_Mo_two : ByteArray := prog_10_method_47_code
def y_Mo_two : MethodName := ⟨R_Mo, "two", "(I)I"⟩
abbrev b_Mo_houses : ByteArray := prog_10_method_48_code
def y_Mo_houses : MethodName := ⟨R_Mo, "houses", "(I)I"⟩
abbrev b_Mo_waits : ByteArray := prog_10_method_49_code
def y_Mo_waits : MethodName := ⟨R_Mo, "waits", "(II)I"⟩
abbrev b_Mo_heard : ByteArray := prog_10_method_50_code
def y_Mo_heard : MethodName := ⟨R_Mo, "heard", "(III)I"⟩
abbrev b_Mo_forget : ByteArray := prog_10_method_51_code
def y_Mo_forget : MethodName := ⟨R_Mo, "forget", "()I"⟩
abbrev b_Mo_may : ByteArray := prog_10_method_52_code
def y_Mo_may : MethodName := ⟨R_Mo, "may", "(I)I"⟩
abbrev b_Mo_suits : ByteArray := prog_10_method_53_code
def y_Mo_suits : MethodName := ⟨R_Mo, "suits", "(I)I"⟩
abbrev b_Mo_against : ByteArray := prog_10_method_54_code
def y_Mo_against : MethodName := ⟨R_Mo, "against", "(II)I"⟩
abbrev b_Mo_ask : ByteArray := prog_10_method_55_code
def y_Mo_ask : MethodName := ⟨R_Mo, "ask", "(I)I"⟩
abbrev b_Mo_wheel : ByteArray := prog_10_method_56_code
def y_Mo_wheel : MethodName := ⟨R_Mo, "wheel", "(II)I"⟩
abbrev b_Mo_evening : ByteArray := prog_10_method_57_code
def y_Mo_evening : MethodName := ⟨R_Mo, "evening", "(III)I"⟩
abbrev b_Mo_keep : ByteArray := prog_10_method_58_code
def y_Mo_keep : MethodName := ⟨R_Mo, "keep", "()I"⟩
abbrev b_Mo_back : ByteArray := prog_10_method_59_code
def y_Mo_back : MethodName := ⟨R_Mo, "back", "()I"⟩
abbrev b_Mo_count : ByteArray := prog_10_method_60_code
def y_Mo_count : MethodName := ⟨R_Mo, "count", "(I)I"⟩
abbrev b_Int_compare_7cf53 : ByteArray := prog_11_method_40_code
def y_Int_compare_7cf53 : MethodName := ⟨R_Int, "compare", "(II)I"⟩
abbrev b_Int_bitCount_0f7a4 : ByteArray := prog_11_method_49_code
def y_Int_bitCount_0f7a4 : MethodName := ⟨R_Int, "bitCount", "(I)I"⟩
abbrev b_Math_max_7cf53 : ByteArray := prog_12_method_65_code
def y_Math_max_7cf53 : MethodName := ⟨R_Math, "max", "(II)I"⟩
abbrev b_Math_min_7cf53 : ByteArray := prog_12_method_69_code
def y_Math_min_7cf53 : MethodName := ⟨R_Math, "min", "(II)I"⟩
abbrev b_Str_length_8abf5 : ByteArray := prog_13_method_54_code
def y_Str_length_8abf5 : MethodName := ⟨R_Str, "length", "()I"⟩
abbrev b_Str_charAt_5068e : ByteArray := prog_13_method_56_code
def y_Str_charAt_5068e : MethodName := ⟨R_Str, "charAt", "(I)C"⟩
abbrev b_Str_coder_7d493 : ByteArray := prog_13_method_152_code
def y_Str_coder_7d493 : MethodName := ⟨R_Str, "coder", "()B"⟩
abbrev b_Str_isLatin1_aae02 : ByteArray := prog_13_method_154_code
def y_Str_isLatin1_aae02 : MethodName := ⟨R_Str, "isLatin1", "()Z"⟩
abbrev b_Str_checkIndex_df160 : ByteArray := prog_13_method_155_code
def y_Str_checkIndex_df160 : MethodName := ⟨R_Str, "checkIndex", "(II)V"⟩
abbrev b_SLa_charAt_3b067 : ByteArray := prog_14_method_2_code
def y_SLa_charAt_3b067 : MethodName := ⟨R_SLa, "charAt", "([BI)C"⟩
abbrev b_SUt_getChar_3b067 : ByteArray := prog_15_method_5_code
def y_SUt_getChar_3b067 : MethodName := ⟨R_SUt, "getChar", "([BI)C"⟩
abbrev b_SUt_length_9d52b : ByteArray := prog_15_method_6_code
def y_SUt_length_9d52b : MethodName := ⟨R_SUt, "length", "([B)I"⟩
abbrev b_SUt_charAt_3b067 : ByteArray := prog_15_method_83_code
def y_SUt_charAt_3b067 : MethodName := ⟨R_SUt, "charAt", "([BI)C"⟩
abbrev b_SUt_checkIndex_2214a : ByteArray := prog_15_method_91_code
def y_SUt_checkIndex_2214a : MethodName := ⟨R_SUt, "checkIndex", "(I[B)V"⟩
abbrev b_Pre_checkIndex_8e157 : ByteArray := prog_16_method_11_code
def y_Pre_checkIndex_8e157 : MethodName := ⟨R_Pre, "checkIndex", "(IILjava/util/function/BiFunction;)I"⟩
abbrev xcl : List vw_C := [(R_Nm, T_Nm, 9), (R_Menu, T_Menu, 8), (R_Moment, T_Moment, 3), (R_Note, T_Note, 5), (R_Notes, T_Notes, 2), (R_Pile, T_Pile, 2), (R_Reader, T_Reader, 4), (R_Table, T_Table, 4), (R_Mo, T_Mo, 15)]
def TB0 : List Cond := [.selects R_Reader y_Reader_readItem y_Reader_readItem,
  .selects R_Reader y_Reader_peek y_Reader_peek,
  .selects R_Reader y_Reader_readDishes y_Reader_readDishes,
  .selects R_Reader y_Reader_number y_Reader_number,
  .selects R_Reader y_Reader_figure y_Reader_figure,
  .selects R_Reader y_Reader_skip y_Reader_skip,
  .selects R_Reader y_Reader_readGuest y_Reader_readGuest,
  .selects R_Reader y_Reader_readMinutes y_Reader_readMinutes,
  .selects R_Reader y_Reader_readVetoes y_Reader_readVetoes,
  .selects R_Reader y_Reader_readShuts y_Reader_readShuts,
  .selects R_Reader y_Reader_readHunger y_Reader_readHunger,
  .selects R_Nm y_Nm_vetoesLeft y_Nm_vetoesLeft,
  .selects R_Nm y_Nm_now y_Nm_now,
  .selects R_Nm y_Nm_at y_Nm_at,
  .selects R_Pile y_Pile_dropLowest y_Pile_dropLowest,
  .selects R_Pile y_Pile_get y_Pile_get,
  .selects R_Nm y_Nm_dishesLeft y_Nm_dishesLeft,
  .selects R_Moment y_Moment_fairRank y_Moment_fairRank,
  .selects R_Nm y_Nm_isOnOffer y_Nm_isOnOffer,
  .selects R_Moment y_Moment_winsAgainstAll y_Moment_winsAgainstAll,
  .selects R_Moment y_Moment_worstAlone y_Moment_worstAlone,
  .selects R_Nm y_Nm_agreesWithNotes y_Nm_agreesWithNotes,
  .selects R_Nm y_Nm_pretend y_Nm_pretend,
  .selects R_Mo y_Mo_empty y_Mo_empty,
  .selects R_Mo y_Mo_firstGuest y_Mo_firstGuest,
  .selects R_Mo y_Mo_begin y_Mo_begin,
  .selects R_Mo y_Mo_readAll y_Mo_readAll,
  .selects R_Mo y_Mo_item y_Mo_item,
  .selects R_Mo y_Mo_letterAt y_Mo_letterAt,
  .selects R_Mo y_Mo_one y_Mo_one,
  .selects R_Mo y_Mo_numbers y_Mo_numbers,
  .selects R_Mo y_Mo_guestItem y_Mo_guestItem,
  .selects R_Mo y_Mo_isGuest y_Mo_isGuest,
  .selects R_Mo y_Mo_hasHeart y_Mo_hasHeart,
  .selects R_Mo y_Mo_worthAt y_Mo_worthAt,
  .selects R_Mo y_Mo_leftBy y_Mo_leftBy,
  .selects R_Mo y_Mo_mostOf y_Mo_mostOf,
  .selects R_Mo y_Mo_isDish y_Mo_isDish,
  .selects R_Mo y_Mo_sumOf y_Mo_sumOf,
  .selects R_Mo y_Mo_note y_Mo_note]
theorem TB0_g : TB0.all goodWord = true := by decide +kernel
set_option maxRecDepth 20000 in
theorem TB0_i : TB0 = [0, 1, 2, 3, 4, 5, 6, 7, 8, 9, 10, 11, 12, 13, 14, 15, 16, 17, 18, 19, 20, 21, 22, 23, 24, 25, 26, 27, 28, 29, 30, 31, 32, 33, 34, 35, 36, 37, 38, 39].filterMap (fun i => lw_tbl[i]?) := by decide +kernel
def TB1 : List Cond := [.selects R_Mo y_Mo_canOrder y_Mo_canOrder,
  .selects R_Mo y_Mo_mostToAll y_Mo_mostToAll,
  .selects R_Mo y_Mo_worstOff y_Mo_worstOff,
  .selects R_Mo y_Mo_isLeft y_Mo_isLeft,
  .selects R_Mo y_Mo_lead y_Mo_lead,
  .selects R_Mo y_Mo_leastOf y_Mo_leastOf,
  .selects R_Mo y_Mo_bestTwo y_Mo_bestTwo,
  .selects R_Mo y_Mo_both y_Mo_both,
  .initialized R_law,
  .initialized R_Nm,
  .initialized R_Reader,
  .initialized R_Table,
  .initialized R_Pile,
  .initialized R_Notes,
  .initialized R_Note,
  .initialized R_Menu,
  .initialized R_Moment,
  .initialized R_Str,
  .initialized R_SLa,
  .initialized R_Pre,
  .initialized R_SUt,
  .initialized R_Mo,
  .initialized R_Math,
  .initialized R_Int,
  .classLink R_law 7 R_Nm,
  .instantiable R_Nm 9,
  .methodLink R_law 9 y_Nm_init,
  .instanceMethod y_Nm_init,
  .code y_Nm_init prog_1_method_1_code 2 none,
  .methodLink R_Nm 1 objectInit,
  .instanceMethod objectInit,
  .code objectInit ⟨#[0xb1]⟩ 1 none,
  .classLink R_Nm 7 R_Reader,
  .instantiable R_Reader 4,
  .instanceMethod y_Reader_init,
  .code y_Reader_init prog_7_method_1_code 1 none,
  .methodLink R_Reader 3 objectInit,
  .fieldLink R_Reader 9 "NoneMinds$Reader" "letters" "[I",
  .fieldLink R_Nm 83 "NoneMinds$Reader" "length" "I",
  .fieldLink R_Reader 15 "NoneMinds$Reader" "length" "I"]
theorem TB1_g : TB1.all goodWord = true := by decide +kernel
set_option maxRecDepth 20000 in
theorem TB1_i : TB1 = [40, 41, 42, 43, 44, 45, 46, 47, 48, 49, 50, 51, 52, 53, 54, 55, 56, 57, 58, 59, 60, 61, 62, 63, 64, 65, 66, 67, 68, 69, 70, 71, 72, 73, 75, 76, 77, 78, 79, 80].filterMap (fun i => lw_tbl[i]?) := by decide +kernel
def TB2 : List Cond := [.fieldLink R_Reader 28 "NoneMinds$Reader" "place" "I",
  .fieldLink R_Reader 31 "NoneMinds$Reader" "onlyDishesSoFar" "Z",
  .laysFinal R_Reader "NoneMinds$Reader" "letters" "[I",
  .lays R_Reader "NoneMinds$Reader" "length" "I",
  .lays R_Reader "NoneMinds$Reader" "place" "I",
  .lays R_Reader "NoneMinds$Reader" "onlyDishesSoFar" "Z",
  .arrayClass .int,
  .classLink R_Nm 16 R_Table,
  .instantiable R_Table 4,
  .instanceMethod y_Table_init,
  .code y_Table_init prog_8_method_1_code 1 none,
  .methodLink R_Table 3 objectInit,
  .fieldLink R_Table 15 "NoneMinds$Table" "minute" "I",
  .fieldLink R_Nm 145 "NoneMinds$Table" "minute" "I",
  .fieldLink R_Table 18 "NoneMinds$Table" "vetoed" "I",
  .fieldLink R_Nm 201 "NoneMinds$Table" "vetoed" "I",
  .fieldLink R_Table 9 "NoneMinds$Table" "ordered" "I",
  .fieldLink R_Nm 164 "NoneMinds$Table" "ordered" "I",
  .fieldLink R_Table 21 "NoneMinds$Table" "spent" "I",
  .lays R_Table "NoneMinds$Table" "minute" "I",
  .lays R_Table "NoneMinds$Table" "vetoed" "I",
  .lays R_Table "NoneMinds$Table" "ordered" "I",
  .lays R_Table "NoneMinds$Table" "spent" "I",
  .classLink R_Nm 26 R_Pile,
  .instantiable R_Pile 2,
  .methodLink R_Nm 28 y_Pile_init,
  .instanceMethod y_Pile_init,
  .code y_Pile_init prog_6_method_1_code 3 none,
  .methodLink R_Pile 1 objectInit,
  .classLink R_Pile 7 R_Table,
  .fieldLink R_Pile 16 "NoneMinds$Pile" "size" "I",
  .fieldLink R_Nm 96 "NoneMinds$Pile" "size" "I",
  .fieldLink R_Pile 9 "NoneMinds$Pile" "tables" "[LNoneMinds$Table;",
  .lays R_Pile "NoneMinds$Pile" "size" "I",
  .laysFinal R_Pile "NoneMinds$Pile" "tables" "[LNoneMinds$Table;",
  .classLink R_Nm 38 R_Notes,
  .instantiable R_Notes 2,
  .methodLink R_Nm 40 y_Notes_init,
  .instanceMethod y_Notes_init,
  .code y_Notes_init prog_5_method_1_code 2 none]
theorem TB2_g : TB2.all goodWord = true := by decide +kernel
set_option maxRecDepth 20000 in
theorem TB2_i : TB2 = [81, 82, 83, 85, 87, 89, 92, 93, 94, 96, 97, 98, 99, 100, 101, 102, 103, 104, 105, 106, 108, 110, 112, 115, 116, 117, 118, 119, 120, 121, 124, 125, 126, 127, 129, 132, 133, 134, 135, 136].filterMap (fun i => lw_tbl[i]?) := by decide +kernel
def TB3 : List Cond := [.methodLink R_Notes 3 objectInit,
  .classLink R_Notes 9 R_Note,
  .instantiable R_Note 5,
  .instanceMethod y_Note_init,
  .code y_Note_init prog_4_method_1_code 1 none,
  .methodLink R_Note 1 objectInit,
  .fieldLink R_Nm 212 "NoneMinds$Note" "guest" "I",
  .fieldLink R_Nm 217 "NoneMinds$Note" "dish" "I",
  .fieldLink R_Nm 220 "NoneMinds$Note" "heart" "Z",
  .fieldLink R_Nm 224 "NoneMinds$Note" "minute" "I",
  .fieldLink R_Nm 225 "NoneMinds$Note" "vetoed" "I",
  .lays R_Note "NoneMinds$Note" "guest" "I",
  .lays R_Note "NoneMinds$Note" "dish" "I",
  .lays R_Note "NoneMinds$Note" "heart" "Z",
  .lays R_Note "NoneMinds$Note" "minute" "I",
  .lays R_Note "NoneMinds$Note" "vetoed" "I",
  .fieldLink R_Notes 18 "NoneMinds$Notes" "size" "I",
  .fieldLink R_Nm 99 "NoneMinds$Notes" "size" "I",
  .fieldLink R_Notes 11 "NoneMinds$Notes" "notes" "[LNoneMinds$Note;",
  .lays R_Notes "NoneMinds$Notes" "size" "I",
  .laysFinal R_Notes "NoneMinds$Notes" "notes" "[LNoneMinds$Note;",
  .classLink R_Nm 45 R_Menu,
  .instantiable R_Menu 8,
  .instanceMethod y_Menu_init,
  .code y_Menu_init prog_2_method_1_code 1 none,
  .methodLink R_Menu 3 objectInit,
  .fieldLink R_Menu 21 "NoneMinds$Menu" "dishes" "I",
  .fieldLink R_Reader 64 "NoneMinds$Menu" "dishes" "I",
  .fieldLink R_Moment 39 "NoneMinds$Menu" "dishes" "I",
  .fieldLink R_Nm 263 "NoneMinds$Menu" "dishes" "I",
  .fieldLink R_Menu 25 "NoneMinds$Menu" "guests" "I",
  .fieldLink R_Moment 33 "NoneMinds$Menu" "guests" "I",
  .fieldLink R_Nm 90 "NoneMinds$Menu" "guests" "I",
  .fieldLink R_Reader 75 "NoneMinds$Menu" "guests" "I",
  .fieldLink R_Menu 28 "NoneMinds$Menu" "vetoes" "I",
  .fieldLink R_Reader 93 "NoneMinds$Menu" "vetoes" "I",
  .fieldLink R_Nm 273 "NoneMinds$Menu" "vetoes" "I",
  .fieldLink R_Menu 31 "NoneMinds$Menu" "shuts" "I",
  .fieldLink R_Reader 96 "NoneMinds$Menu" "shuts" "I",
  .fieldLink R_Moment 21 "NoneMinds$Menu" "hunger" "I"]
theorem TB3_g : TB3.all goodWord = true := by decide +kernel
set_option maxRecDepth 20000 in
theorem TB3_i : TB3 = [137, 138, 140, 142, 143, 144, 145, 146, 147, 148, 149, 150, 152, 154, 156, 158, 161, 162, 163, 164, 166, 169, 170, 172, 173, 174, 175, 176, 177, 178, 179, 180, 181, 182, 183, 184, 185, 186, 187, 188].filterMap (fun i => lw_tbl[i]?) := by decide +kernel
def TB4 : List Cond := [.fieldLink R_Menu 34 "NoneMinds$Menu" "hunger" "I",
  .fieldLink R_Reader 99 "NoneMinds$Menu" "hunger" "I",
  .fieldLink R_Menu 9 "NoneMinds$Menu" "kinds" "[I",
  .fieldLink R_Reader 81 "NoneMinds$Menu" "kinds" "[I",
  .fieldLink R_Menu 15 "NoneMinds$Menu" "told" "[I",
  .fieldLink R_Reader 84 "NoneMinds$Menu" "told" "[I",
  .fieldLink R_Menu 18 "NoneMinds$Menu" "minutes" "[I",
  .fieldLink R_Reader 90 "NoneMinds$Menu" "minutes" "[I",
  .lays R_Menu "NoneMinds$Menu" "dishes" "I",
  .lays R_Menu "NoneMinds$Menu" "guests" "I",
  .lays R_Menu "NoneMinds$Menu" "vetoes" "I",
  .lays R_Menu "NoneMinds$Menu" "shuts" "I",
  .lays R_Menu "NoneMinds$Menu" "hunger" "I",
  .laysFinal R_Menu "NoneMinds$Menu" "kinds" "[I",
  .laysFinal R_Menu "NoneMinds$Menu" "told" "[I",
  .laysFinal R_Menu "NoneMinds$Menu" "minutes" "[I",
  .classLink R_Nm 55 R_Moment,
  .instantiable R_Moment 3,
  .methodLink R_Nm 57 y_Moment_init,
  .instanceMethod y_Moment_init,
  .code y_Moment_init prog_3_method_1_code 2 none,
  .methodLink R_Moment 3 objectInit,
  .fieldLink R_Moment 9 "NoneMinds$Moment" "menu" "LNoneMinds$Menu;",
  .fieldLink R_Nm 266 "NoneMinds$Moment" "menu" "LNoneMinds$Menu;",
  .fieldLink R_Moment 25 "NoneMinds$Moment" "minute" "I",
  .fieldLink R_Nm 269 "NoneMinds$Moment" "minute" "I",
  .fieldLink R_Moment 42 "NoneMinds$Moment" "left" "I",
  .fieldLink R_Nm 232 "NoneMinds$Moment" "left" "I",
  .lays R_Moment "NoneMinds$Moment" "menu" "LNoneMinds$Menu;",
  .lays R_Moment "NoneMinds$Moment" "minute" "I",
  .lays R_Moment "NoneMinds$Moment" "left" "I",
  .methodLink R_Nm 66 y_Str_length_8abf5,
  .instanceMethod y_Str_length_8abf5,
  .selects R_Str y_Str_length_8abf5 y_Str_length_8abf5,
  .code y_Str_length_8abf5 prog_13_method_54_code 1 (some .int),
  .methodLink R_Str 335 y_Str_coder_7d493,
  .instanceMethod y_Str_coder_7d493,
  .selects R_Str y_Str_coder_7d493 y_Str_coder_7d493,
  .code y_Str_coder_7d493 prog_13_method_152_code 1 (some .byte),
  .fieldLink R_Str 38 "java/lang/String" "COMPACT_STRINGS" "Z"]
theorem TB4_g : TB4.all goodWord = true := by decide +kernel
set_option maxRecDepth 20000 in
theorem TB4_i : TB4 = [189, 190, 191, 192, 193, 194, 195, 196, 197, 199, 201, 203, 205, 207, 209, 211, 214, 215, 216, 217, 218, 219, 220, 221, 222, 223, 224, 225, 226, 228, 230, 234, 235, 236, 237, 238, 239, 240, 241, 242].filterMap (fun i => lw_tbl[i]?) := by decide +kernel
def TB5 : List Cond := [.methodLink R_Nm 72 y_Str_charAt_5068e,
  .instanceMethod y_Str_charAt_5068e,
  .selects R_Str y_Str_charAt_5068e y_Str_charAt_5068e,
  .code y_Str_charAt_5068e prog_13_method_56_code 2 (some .char),
  .methodLink R_Str 492 y_Str_isLatin1_aae02,
  .instanceMethod y_Str_isLatin1_aae02,
  .selects R_Str y_Str_isLatin1_aae02 y_Str_isLatin1_aae02,
  .code y_Str_isLatin1_aae02 prog_13_method_154_code 1 (some .boolean),
  .methodLink R_Str 495 y_SLa_charAt_3b067,
  .static y_SLa_charAt_3b067,
  .code y_SLa_charAt_3b067 prog_14_method_2_code 2 (some .char),
  .methodLink R_SLa 9 y_Str_checkIndex_df160,
  .static y_Str_checkIndex_df160,
  .code y_Str_checkIndex_df160 prog_13_method_155_code 2 none,
  .fieldLink R_Str 1053 "jdk/internal/util/Preconditions" "SIOOBE_FORMATTER" "Ljava/util/function/BiFunction;",
  .methodLink R_Str 1059 y_Pre_checkIndex_8e157,
  .static y_Pre_checkIndex_8e157,
  .code y_Pre_checkIndex_8e157 prog_16_method_11_code 3 (some .int),
  .methodLink R_Str 498 y_SUt_charAt_3b067,
  .static y_SUt_charAt_3b067,
  .code y_SUt_charAt_3b067 prog_15_method_83_code 2 (some .char),
  .methodLink R_SUt 67 y_SUt_checkIndex_2214a,
  .static y_SUt_checkIndex_2214a,
  .code y_SUt_checkIndex_2214a prog_15_method_91_code 2 none,
  .methodLink R_SUt 48 y_SUt_length_9d52b,
  .static y_SUt_length_9d52b,
  .code y_SUt_length_9d52b prog_15_method_6_code 1 (some .int),
  .methodLink R_SUt 414 y_Str_checkIndex_df160,
  .methodLink R_SUt 71 y_SUt_getChar_3b067,
  .static y_SUt_getChar_3b067,
  .code y_SUt_getChar_3b067 prog_15_method_5_code 2 (some .char),
  .fieldLink R_SUt 44 "java/lang/StringUTF16" "$assertionsDisabled" "Z",
  .fieldLink R_SUt 59 "java/lang/StringUTF16" "HI_BYTE_SHIFT" "I",
  .fieldLink R_SUt 63 "java/lang/StringUTF16" "LO_BYTE_SHIFT" "I",
  .methodLink R_Nm 76 y_Reader_append,
  .instanceMethod y_Reader_append,
  .selects R_Reader y_Reader_append y_Reader_append,
  .code y_Reader_append prog_7_method_2_code 2 none,
  .static y_Nm_put,
  .code y_Nm_put prog_1_method_45_code 3 none]
theorem TB5_g : TB5.all goodWord = true := by decide +kernel
set_option maxRecDepth 20000 in
theorem TB5_i : TB5 = [244, 245, 246, 247, 248, 249, 250, 251, 252, 253, 254, 255, 256, 257, 258, 260, 261, 262, 263, 264, 265, 266, 267, 268, 269, 270, 271, 272, 273, 274, 275, 276, 278, 280, 282, 283, 284, 285, 287, 288].filterMap (fun i => lw_tbl[i]?) := by decide +kernel
def TB6 : List Cond := [.methodLink R_Nm 79 y_Reader_readInto,
  .instanceMethod y_Reader_readInto,
  .selects R_Reader y_Reader_readInto y_Reader_readInto,
  .code y_Reader_readInto prog_7_method_3_code 4 (some .int),
  .methodLink R_Reader 23 y_Menu_clear,
  .instanceMethod y_Menu_clear,
  .selects R_Menu y_Menu_clear y_Menu_clear,
  .code y_Menu_clear prog_2_method_2_code 2 none,
  .methodLink R_Reader 35 y_Reader_readItem,
  .instanceMethod y_Reader_readItem,
  .code y_Reader_readItem prog_7_method_4_code 3 (some .boolean),
  .methodLink R_Reader 39 y_Reader_peek,
  .instanceMethod y_Reader_peek,
  .code y_Reader_peek prog_7_method_14_code 1 (some .int),
  .methodLink R_Reader 43 y_Reader_readDishes,
  .instanceMethod y_Reader_readDishes,
  .code y_Reader_readDishes prog_7_method_5_code 2 (some .boolean),
  .methodLink R_Reader 61 y_Reader_number,
  .instanceMethod y_Reader_number,
  .code y_Reader_number prog_7_method_11_code 3 (some .int),
  .methodLink R_Reader 78 y_Reader_figure,
  .instanceMethod y_Reader_figure,
  .code y_Reader_figure prog_7_method_12_code 2 (some .int),
  .static y_Nm_isOutside,
  .code y_Nm_isOutside prog_1_method_41_code 3 (some .boolean),
  .methodLink R_Reader 71 y_Reader_skip,
  .instanceMethod y_Reader_skip,
  .code y_Reader_skip prog_7_method_13_code 2 (some .boolean),
  .methodLink R_Reader 46 y_Reader_readGuest,
  .instanceMethod y_Reader_readGuest,
  .code y_Reader_readGuest prog_7_method_6_code 6 (some .boolean),
  .methodLink R_Reader 49 y_Reader_readMinutes,
  .instanceMethod y_Reader_readMinutes,
  .code y_Reader_readMinutes prog_7_method_7_code 4 (some .boolean),
  .methodLink R_Reader 87 y_Menu_hasDish,
  .instanceMethod y_Menu_hasDish,
  .selects R_Menu y_Menu_hasDish y_Menu_hasDish,
  .code y_Menu_hasDish prog_2_method_4_code 2 (some .boolean),
  .methodLink R_Reader 52 y_Reader_readVetoes,
  .instanceMethod y_Reader_readVetoes]
theorem TB6_g : TB6.all goodWord = true := by decide +kernel
set_option maxRecDepth 20000 in
theorem TB6_i : TB6 = [289, 290, 291, 292, 293, 294, 295, 296, 298, 300, 301, 302, 304, 305, 306, 308, 309, 310, 312, 313, 314, 316, 317, 319, 320, 321, 323, 324, 325, 327, 328, 329, 331, 332, 333, 334, 335, 336, 337, 339].filterMap (fun i => lw_tbl[i]?) := by decide +kernel
def TB7 : List Cond := [.code y_Reader_readVetoes prog_7_method_8_code 2 (some .boolean),
  .methodLink R_Reader 55 y_Reader_readShuts,
  .instanceMethod y_Reader_readShuts,
  .code y_Reader_readShuts prog_7_method_9_code 2 (some .boolean),
  .methodLink R_Reader 58 y_Reader_readHunger,
  .instanceMethod y_Reader_readHunger,
  .code y_Reader_readHunger prog_7_method_10_code 2 (some .boolean),
  .fieldLink R_Nm 10 "NoneMinds" "text" "LNoneMinds$Reader;",
  .fieldLink R_Nm 19 "NoneMinds" "table" "LNoneMinds$Table;",
  .fieldLink R_Nm 23 "NoneMinds" "pretended" "LNoneMinds$Table;",
  .fieldLink R_Nm 60 "NoneMinds" "moment" "LNoneMinds$Moment;",
  .fieldLink R_Nm 31 "NoneMinds" "past" "LNoneMinds$Pile;",
  .fieldLink R_Nm 35 "NoneMinds" "kept" "LNoneMinds$Pile;",
  .fieldLink R_Nm 41 "NoneMinds" "notes" "LNoneMinds$Notes;",
  .fieldLink R_Nm 48 "NoneMinds" "laid" "LNoneMinds$Menu;",
  .fieldLink R_Nm 52 "NoneMinds" "draft" "LNoneMinds$Menu;",
  .laysFinal R_Nm "NoneMinds" "text" "LNoneMinds$Reader;",
  .laysFinal R_Nm "NoneMinds" "table" "LNoneMinds$Table;",
  .laysFinal R_Nm "NoneMinds" "pretended" "LNoneMinds$Table;",
  .laysFinal R_Nm "NoneMinds" "moment" "LNoneMinds$Moment;",
  .laysFinal R_Nm "NoneMinds" "past" "LNoneMinds$Pile;",
  .laysFinal R_Nm "NoneMinds" "kept" "LNoneMinds$Pile;",
  .laysFinal R_Nm "NoneMinds" "notes" "LNoneMinds$Notes;",
  .lays R_Nm "NoneMinds" "laid" "LNoneMinds$Menu;",
  .lays R_Nm "NoneMinds" "draft" "LNoneMinds$Menu;",
  .arrayClass .byte,
  .methodLink R_law 13 y_Nm_write,
  .instanceMethod y_Nm_write,
  .selects R_Nm y_Nm_write y_Nm_write,
  .code y_Nm_write prog_1_method_2_code 2 (some .int),
  .methodLink R_Nm 86 y_Nm_isOutside,
  .methodLink R_law 18 y_Nm_wipe,
  .instanceMethod y_Nm_wipe,
  .selects R_Nm y_Nm_wipe y_Nm_wipe,
  .code y_Nm_wipe prog_1_method_3_code 2 (some .int),
  .methodLink R_law 23 y_Nm_fault,
  .instanceMethod y_Nm_fault,
  .selects R_Nm y_Nm_fault y_Nm_fault,
  .code y_Nm_fault prog_1_method_4_code 1 (some .int),
  .methodLink R_law 27 y_Nm_lay]
theorem TB7_g : TB7.all goodWord = true := by decide +kernel
set_option maxRecDepth 20000 in
theorem TB7_i : TB7 = [340, 341, 343, 344, 345, 347, 348, 349, 350, 351, 352, 353, 354, 355, 356, 357, 358, 360, 362, 364, 366, 368, 370, 372, 374, 377, 378, 379, 380, 381, 382, 383, 384, 385, 386, 387, 388, 389, 390, 391].filterMap (fun i => lw_tbl[i]?) := by decide +kernel
def TB8 : List Cond := [.instanceMethod y_Nm_lay,
  .selects R_Nm y_Nm_lay y_Nm_lay,
  .code y_Nm_lay prog_1_method_5_code 2 (some .int),
  .methodLink R_Nm 93 y_Table_clear,
  .instanceMethod y_Table_clear,
  .selects R_Table y_Table_clear y_Table_clear,
  .code y_Table_clear prog_8_method_2_code 1 none,
  .methodLink R_law 31 y_Nm_guest,
  .instanceMethod y_Nm_guest,
  .selects R_Nm y_Nm_guest y_Nm_guest,
  .code y_Nm_guest prog_1_method_6_code 3 (some .int),
  .methodLink R_Nm 100 y_Menu_hasGuest,
  .instanceMethod y_Menu_hasGuest,
  .selects R_Menu y_Menu_hasGuest y_Menu_hasGuest,
  .code y_Menu_hasGuest prog_2_method_3_code 2 (some .boolean),
  .methodLink R_Nm 104 y_Menu_kindOf,
  .instanceMethod y_Menu_kindOf,
  .selects R_Menu y_Menu_kindOf y_Menu_kindOf,
  .code y_Menu_kindOf prog_2_method_6_code 2 (some .int),
  .static y_Nm_entry,
  .code y_Nm_entry prog_1_method_44_code 2 (some .int),
  .methodLink R_Nm 108 y_Nm_vetoesLeft,
  .instanceMethod y_Nm_vetoesLeft,
  .code y_Nm_vetoesLeft prog_1_method_36_code 3 (some .int),
  .methodLink R_Nm 276 y_Table_spentBy,
  .instanceMethod y_Table_spentBy,
  .selects R_Table y_Table_spentBy y_Table_spentBy,
  .code y_Table_spentBy prog_8_method_6_code 2 (some .int),
  .methodLink R_Nm 112 y_Nm_now,
  .instanceMethod y_Nm_now,
  .code y_Nm_now prog_1_method_34_code 1 (some (.object "NoneMinds$Moment")),
  .methodLink R_Nm 204 y_Nm_at,
  .instanceMethod y_Nm_at,
  .code y_Nm_at prog_1_method_33_code 3 (some (.object "NoneMinds$Moment")),
  .methodLink R_Nm 270 y_Menu_allDishes,
  .instanceMethod y_Menu_allDishes,
  .selects R_Menu y_Menu_allDishes y_Menu_allDishes,
  .code y_Menu_allDishes prog_2_method_5_code 1 (some .int),
  .methodLink R_Nm 116 y_Moment_heartsOf,
  .instanceMethod y_Moment_heartsOf]
theorem TB8_g : TB8.all goodWord = true := by decide +kernel
set_option maxRecDepth 20000 in
theorem TB8_i : TB8 = [392, 393, 394, 395, 396, 397, 398, 399, 400, 401, 402, 403, 404, 405, 406, 407, 408, 409, 410, 412, 413, 414, 416, 417, 418, 419, 420, 421, 422, 424, 425, 426, 428, 429, 430, 431, 432, 433, 434, 435].filterMap (fun i => lw_tbl[i]?) := by decide +kernel
def TB9 : List Cond := [.selects R_Moment y_Moment_heartsOf y_Moment_heartsOf,
  .code y_Moment_heartsOf prog_3_method_9_code 4 (some .int),
  .methodLink R_Moment 53 y_Menu_kindOf,
  .methodLink R_Moment 56 y_Moment_gives,
  .instanceMethod y_Moment_gives,
  .selects R_Moment y_Moment_gives y_Moment_gives,
  .code y_Moment_gives prog_3_method_8_code 4 (some .boolean),
  .methodLink R_Moment 45 y_Moment_isIn,
  .static y_Moment_isIn,
  .code y_Moment_isIn prog_3_method_23_code 2 (some .boolean),
  .methodLink R_Moment 36 y_Moment_value,
  .instanceMethod y_Moment_value,
  .selects R_Moment y_Moment_value y_Moment_value,
  .code y_Moment_value prog_3_method_2_code 4 (some .int),
  .methodLink R_Moment 15 y_Menu_toldWorth,
  .instanceMethod y_Menu_toldWorth,
  .selects R_Menu y_Menu_toldWorth y_Menu_toldWorth,
  .code y_Menu_toldWorth prog_2_method_9_code 3 (some .int),
  .methodLink R_Menu 49 y_Menu_hasGuest,
  .methodLink R_Menu 53 y_Menu_hasDish,
  .methodLink R_Moment 28 y_Math_min_7cf53,
  .static y_Math_min_7cf53,
  .code y_Math_min_7cf53 prog_12_method_69_code 2 (some .int),
  .methodLink R_Moment 49 y_Moment_favourite,
  .instanceMethod y_Moment_favourite,
  .selects R_Moment y_Moment_favourite y_Moment_favourite,
  .code y_Moment_favourite prog_3_method_6_code 4 (some .int),
  .methodLink R_Nm 119 y_Moment_favourite,
  .methodLink R_law 36 y_Nm_dish,
  .instanceMethod y_Nm_dish,
  .selects R_Nm y_Nm_dish y_Nm_dish,
  .code y_Nm_dish prog_1_method_7_code 3 (some .int),
  .methodLink R_Nm 122 y_Menu_hasDish,
  .methodLink R_Nm 125 y_Menu_minutesOf,
  .instanceMethod y_Menu_minutesOf,
  .selects R_Menu y_Menu_minutesOf y_Menu_minutesOf,
  .code y_Menu_minutesOf prog_2_method_7_code 2 (some .int),
  .methodLink R_Nm 128 y_Table_isVetoed,
  .instanceMethod y_Table_isVetoed,
  .selects R_Table y_Table_isVetoed y_Table_isVetoed]
theorem TB9_g : TB9.all goodWord = true := by decide +kernel
set_option maxRecDepth 20000 in
theorem TB9_i : TB9 = [436, 437, 438, 439, 440, 441, 442, 443, 444, 445, 446, 447, 448, 449, 450, 451, 452, 453, 454, 455, 456, 457, 458, 459, 460, 461, 462, 463, 464, 465, 466, 467, 468, 469, 470, 471, 472, 473, 474, 475].filterMap (fun i => lw_tbl[i]?) := by decide +kernel
def TB10 : List Cond := [.code y_Table_isVetoed prog_8_method_5_code 2 (some .boolean),
  .methodLink R_Nm 131 y_Moment_heartsOn,
  .instanceMethod y_Moment_heartsOn,
  .selects R_Moment y_Moment_heartsOn y_Moment_heartsOn,
  .code y_Moment_heartsOn prog_3_method_10_code 4 (some .int),
  .methodLink R_Nm 134 y_Moment_together,
  .instanceMethod y_Moment_together,
  .selects R_Moment y_Moment_together y_Moment_together,
  .code y_Moment_together prog_3_method_3_code 5 (some .int),
  .methodLink R_law 40 y_Nm_worth,
  .instanceMethod y_Nm_worth,
  .selects R_Nm y_Nm_worth y_Nm_worth,
  .code y_Nm_worth prog_1_method_8_code 3 (some .int),
  .methodLink R_Nm 138 y_Moment_value,
  .methodLink R_law 44 y_Nm_pass,
  .instanceMethod y_Nm_pass,
  .selects R_Nm y_Nm_pass y_Nm_pass,
  .code y_Nm_pass prog_1_method_9_code 2 (some .int),
  .methodLink R_Nm 141 y_Table_isOrdered,
  .instanceMethod y_Table_isOrdered,
  .selects R_Table y_Table_isOrdered y_Table_isOrdered,
  .code y_Table_isOrdered prog_8_method_4_code 1 (some .boolean),
  .methodLink R_Nm 148 y_Pile_push,
  .instanceMethod y_Pile_push,
  .selects R_Pile y_Pile_push y_Pile_push,
  .code y_Pile_push prog_6_method_2_code 2 none,
  .methodLink R_Pile 20 y_Pile_dropLowest,
  .instanceMethod y_Pile_dropLowest,
  .code y_Pile_dropLowest prog_6_method_4_code 2 none,
  .methodLink R_Pile 23 y_Pile_get,
  .instanceMethod y_Pile_get,
  .code y_Pile_get prog_6_method_5_code 2 (some (.object "NoneMinds$Table")),
  .methodLink R_Pile 27 y_Pile_copy,
  .static y_Pile_copy,
  .code y_Pile_copy prog_6_method_6_code 2 none,
  .methodLink R_Pile 31 y_Table_copyFrom,
  .instanceMethod y_Table_copyFrom,
  .selects R_Table y_Table_copyFrom y_Table_copyFrom,
  .code y_Table_copyFrom prog_8_method_3_code 2 none,
  .methodLink R_law 48 y_Nm_veto]
theorem TB10_g : TB10.all goodWord = true := by decide +kernel
set_option maxRecDepth 20000 in
theorem TB10_i : TB10 = [476, 477, 478, 479, 480, 481, 482, 483, 484, 485, 486, 487, 488, 489, 490, 491, 492, 493, 494, 495, 496, 497, 498, 499, 500, 501, 502, 504, 505, 506, 508, 509, 510, 511, 512, 513, 514, 515, 516, 517].filterMap (fun i => lw_tbl[i]?) := by decide +kernel
def TB11 : List Cond := [.instanceMethod y_Nm_veto,
  .selects R_Nm y_Nm_veto y_Nm_veto,
  .code y_Nm_veto prog_1_method_10_code 3 (some .int),
  .methodLink R_Nm 152 y_Nm_dishesLeft,
  .instanceMethod y_Nm_dishesLeft,
  .code y_Nm_dishesLeft prog_1_method_37_code 2 (some .int),
  .methodLink R_Nm 235 y_Int_bitCount_0f7a4,
  .static y_Int_bitCount_0f7a4,
  .code y_Int_bitCount_0f7a4 prog_11_method_49_code 1 (some .int),
  .constant R_Int 265 (1431655765),
  .constant R_Int 266 (858993459),
  .constant R_Int 267 (252645135),
  .methodLink R_Nm 156 y_Table_strike,
  .instanceMethod y_Table_strike,
  .selects R_Table y_Table_strike y_Table_strike,
  .code y_Table_strike prog_8_method_7_code 3 none,
  .methodLink R_law 52 y_Nm_order,
  .instanceMethod y_Nm_order,
  .selects R_Nm y_Nm_order y_Nm_order,
  .code y_Nm_order prog_1_method_11_code 2 (some .int),
  .methodLink R_Nm 160 y_Menu_isInTime,
  .instanceMethod y_Menu_isInTime,
  .selects R_Menu y_Menu_isInTime y_Menu_isInTime,
  .code y_Menu_isInTime prog_2_method_8_code 3 (some .boolean),
  .methodLink R_Menu 45 y_Menu_minutesOf,
  .methodLink R_law 56 y_Nm_undo,
  .instanceMethod y_Nm_undo,
  .selects R_Nm y_Nm_undo y_Nm_undo,
  .code y_Nm_undo prog_1_method_12_code 1 (some .int),
  .methodLink R_Nm 167 y_Pile_popInto,
  .instanceMethod y_Pile_popInto,
  .selects R_Pile y_Pile_popInto y_Pile_popInto,
  .code y_Pile_popInto prog_6_method_3_code 2 (some .boolean),
  .methodLink R_law 60 y_Nm_most,
  .instanceMethod y_Nm_most,
  .selects R_Nm y_Nm_most y_Nm_most,
  .code y_Nm_most prog_1_method_13_code 4 (some .int),
  .methodLink R_Nm 171 y_Moment_mostDish,
  .instanceMethod y_Moment_mostDish,
  .selects R_Moment y_Moment_mostDish y_Moment_mostDish]
theorem TB11_g : TB11.all goodWord = true := by decide +kernel
set_option maxRecDepth 20000 in
theorem TB11_i : TB11 = [518, 519, 520, 521, 523, 524, 525, 526, 527, 528, 529, 530, 531, 532, 533, 534, 535, 536, 537, 538, 539, 540, 541, 542, 543, 544, 545, 546, 547, 548, 549, 550, 551, 552, 553, 554, 555, 556, 557, 558].filterMap (fun i => lw_tbl[i]?) := by decide +kernel
def TB12 : List Cond := [.code y_Moment_mostDish prog_3_method_11_code 4 (some .int),
  .methodLink R_Moment 60 y_Moment_together,
  .methodLink R_law 64 y_Nm_fair,
  .instanceMethod y_Nm_fair,
  .selects R_Nm y_Nm_fair y_Nm_fair,
  .code y_Nm_fair prog_1_method_14_code 4 (some .int),
  .methodLink R_Nm 174 y_Moment_fairDish,
  .instanceMethod y_Moment_fairDish,
  .selects R_Moment y_Moment_fairDish y_Moment_fairDish,
  .code y_Moment_fairDish prog_3_method_12_code 4 (some .int),
  .methodLink R_Moment 63 y_Moment_fairRank,
  .instanceMethod y_Moment_fairRank,
  .code y_Moment_fairRank prog_3_method_13_code 2 (some .int),
  .methodLink R_Moment 66 y_Moment_leastWorth,
  .instanceMethod y_Moment_leastWorth,
  .selects R_Moment y_Moment_leastWorth y_Moment_leastWorth,
  .code y_Moment_leastWorth prog_3_method_4_code 4 (some .int),
  .methodLink R_Nm 177 y_Moment_leastWorth,
  .methodLink R_law 68 y_Nm_beats,
  .instanceMethod y_Nm_beats,
  .selects R_Nm y_Nm_beats y_Nm_beats,
  .code y_Nm_beats prog_1_method_15_code 3 (some .int),
  .methodLink R_Nm 180 y_Nm_isOnOffer,
  .instanceMethod y_Nm_isOnOffer,
  .code y_Nm_isOnOffer prog_1_method_35_code 2 (some .boolean),
  .methodLink R_Nm 183 y_Moment_lead,
  .instanceMethod y_Moment_lead,
  .selects R_Moment y_Moment_lead y_Moment_lead,
  .code y_Moment_lead prog_3_method_14_code 5 (some .int),
  .methodLink R_Moment 69 y_Int_compare_7cf53,
  .static y_Int_compare_7cf53,
  .code y_Int_compare_7cf53 prog_11_method_40_code 2 (some .int),
  .methodLink R_law 72 y_Nm_champion,
  .instanceMethod y_Nm_champion,
  .selects R_Nm y_Nm_champion y_Nm_champion,
  .code y_Nm_champion prog_1_method_16_code 1 (some .int),
  .methodLink R_Nm 186 y_Moment_winner,
  .instanceMethod y_Moment_winner,
  .selects R_Moment y_Moment_winner y_Moment_winner,
  .code y_Moment_winner prog_3_method_15_code 2 (some .int)]
theorem TB12_g : TB12.all goodWord = true := by decide +kernel
set_option maxRecDepth 20000 in
theorem TB12_i : TB12 = [559, 560, 561, 562, 563, 564, 565, 566, 567, 568, 569, 571, 572, 573, 574, 575, 576, 577, 578, 579, 580, 581, 582, 584, 585, 586, 587, 588, 589, 590, 591, 592, 593, 594, 595, 596, 597, 598, 599, 600].filterMap (fun i => lw_tbl[i]?) := by decide +kernel
def TB13 : List Cond := [.methodLink R_Moment 74 y_Moment_winsAgainstAll,
  .instanceMethod y_Moment_winsAgainstAll,
  .code y_Moment_winsAgainstAll prog_3_method_16_code 3 (some .boolean),
  .methodLink R_Moment 78 y_Moment_lead,
  .methodLink R_law 76 y_Nm_middle,
  .instanceMethod y_Nm_middle,
  .selects R_Nm y_Nm_middle y_Nm_middle,
  .code y_Nm_middle prog_1_method_17_code 1 (some .int),
  .methodLink R_Nm 189 y_Moment_nobodysWorst,
  .instanceMethod y_Moment_nobodysWorst,
  .selects R_Moment y_Moment_nobodysWorst y_Moment_nobodysWorst,
  .code y_Moment_nobodysWorst prog_3_method_17_code 3 (some .int),
  .methodLink R_Moment 81 y_Int_bitCount_0f7a4,
  .methodLink R_Moment 84 y_Moment_worstAlone,
  .instanceMethod y_Moment_worstAlone,
  .code y_Moment_worstAlone prog_3_method_18_code 4 (some .int),
  .methodLink R_Moment 87 y_Moment_leastLiked,
  .instanceMethod y_Moment_leastLiked,
  .selects R_Moment y_Moment_leastLiked y_Moment_leastLiked,
  .code y_Moment_leastLiked prog_3_method_7_code 5 (some .int),
  .methodLink R_law 80 y_Nm_struck,
  .instanceMethod y_Nm_struck,
  .selects R_Nm y_Nm_struck y_Nm_struck,
  .code y_Nm_struck prog_1_method_18_code 2 (some .int),
  .methodLink R_Nm 192 y_Moment_lastStanding,
  .instanceMethod y_Moment_lastStanding,
  .selects R_Moment y_Moment_lastStanding y_Moment_lastStanding,
  .code y_Moment_lastStanding prog_3_method_19_code 5 (some .int),
  .methodLink R_law 84 y_Nm_two,
  .instanceMethod y_Nm_two,
  .selects R_Nm y_Nm_two y_Nm_two,
  .code y_Nm_two prog_1_method_19_code 4 (some .int),
  .methodLink R_Nm 195 y_Moment_bestPair,
  .instanceMethod y_Moment_bestPair,
  .selects R_Moment y_Moment_bestPair y_Moment_bestPair,
  .code y_Moment_bestPair prog_3_method_20_code 5 (some .int),
  .methodLink R_Moment 90 y_Moment_pairWorth,
  .instanceMethod y_Moment_pairWorth,
  .selects R_Moment y_Moment_pairWorth y_Moment_pairWorth,
  .code y_Moment_pairWorth prog_3_method_21_code 5 (some .int)]
theorem TB13_g : TB13.all goodWord = true := by decide +kernel
set_option maxRecDepth 20000 in
theorem TB13_i : TB13 = [601, 603, 604, 605, 606, 607, 608, 609, 610, 611, 612, 613, 614, 615, 617, 618, 619, 620, 621, 622, 623, 624, 625, 626, 627, 628, 629, 630, 631, 632, 633, 634, 635, 636, 637, 638, 639, 640, 641, 642].filterMap (fun i => lw_tbl[i]?) := by decide +kernel
def TB14 : List Cond := [.methodLink R_Moment 93 y_Math_max_7cf53,
  .static y_Math_max_7cf53,
  .code y_Math_max_7cf53 prog_12_method_65_code 2 (some .int),
  .methodLink R_Nm 198 y_Moment_pairWorth,
  .methodLink R_law 88 y_Nm_houses,
  .instanceMethod y_Nm_houses,
  .selects R_Nm y_Nm_houses y_Nm_houses,
  .code y_Nm_houses prog_1_method_20_code 5 (some .int),
  .methodLink R_law 92 y_Nm_waits,
  .instanceMethod y_Nm_waits,
  .selects R_Nm y_Nm_waits y_Nm_waits,
  .code y_Nm_waits prog_1_method_21_code 7 (some .int),
  .methodLink R_law 96 y_Nm_heard,
  .instanceMethod y_Nm_heard,
  .selects R_Nm y_Nm_heard y_Nm_heard,
  .code y_Nm_heard prog_1_method_22_code 5 (some .int),
  .methodLink R_Nm 208 y_Notes_next,
  .instanceMethod y_Notes_next,
  .selects R_Notes y_Notes_next y_Notes_next,
  .code y_Notes_next prog_5_method_3_code 2 (some (.object "NoneMinds$Note")),
  .methodLink R_Notes 22 y_Notes_get,
  .instanceMethod y_Notes_get,
  .selects R_Notes y_Notes_get y_Notes_get,
  .code y_Notes_get prog_5_method_2_code 2 (some (.object "NoneMinds$Note")),
  .methodLink R_law 101 y_Nm_forget,
  .instanceMethod y_Nm_forget,
  .selects R_Nm y_Nm_forget y_Nm_forget,
  .code y_Nm_forget prog_1_method_23_code 2 (some .int),
  .methodLink R_law 105 y_Nm_may,
  .instanceMethod y_Nm_may,
  .selects R_Nm y_Nm_may y_Nm_may,
  .code y_Nm_may prog_1_method_24_code 4 (some .int),
  .methodLink R_Nm 226 y_Nm_agreesWithNotes,
  .instanceMethod y_Nm_agreesWithNotes,
  .code y_Nm_agreesWithNotes prog_1_method_38_code 6 (some .boolean),
  .methodLink R_Nm 279 y_Notes_get,
  .methodLink R_Nm 283 y_Moment_gives,
  .methodLink R_law 109 y_Nm_suits,
  .instanceMethod y_Nm_suits,
  .selects R_Nm y_Nm_suits y_Nm_suits]
theorem TB14_g : TB14.all goodWord = true := by decide +kernel
set_option maxRecDepth 20000 in
theorem TB14_i : TB14 = [643, 644, 645, 646, 647, 648, 649, 650, 651, 652, 653, 654, 655, 656, 657, 658, 659, 660, 661, 662, 663, 664, 665, 666, 667, 668, 669, 670, 671, 672, 673, 674, 675, 677, 678, 679, 680, 681, 682, 683].filterMap (fun i => lw_tbl[i]?) := by decide +kernel
def TB15 : List Cond := [.code y_Nm_suits prog_1_method_25_code 6 (some .int),
  .methodLink R_law 113 y_Nm_against,
  .instanceMethod y_Nm_against,
  .selects R_Nm y_Nm_against y_Nm_against,
  .code y_Nm_against prog_1_method_26_code 3 (some .int),
  .methodLink R_Nm 229 y_Moment_opponent,
  .instanceMethod y_Moment_opponent,
  .selects R_Moment y_Moment_opponent y_Moment_opponent,
  .code y_Moment_opponent prog_3_method_5_code 4 (some .int),
  .methodLink R_law 117 y_Nm_ask,
  .instanceMethod y_Nm_ask,
  .selects R_Nm y_Nm_ask y_Nm_ask,
  .code y_Nm_ask prog_1_method_27_code 5 (some .int),
  .methodLink R_law 121 y_Nm_wheel,
  .instanceMethod y_Nm_wheel,
  .selects R_Nm y_Nm_wheel y_Nm_wheel,
  .code y_Nm_wheel prog_1_method_28_code 8 (some .int),
  .methodLink R_Nm 240 y_Nm_power,
  .static y_Nm_power,
  .code y_Nm_power prog_1_method_42_code 4 (some .int),
  .methodLink R_Nm 243 y_Moment_welcomeDishes,
  .instanceMethod y_Moment_welcomeDishes,
  .selects R_Moment y_Moment_welcomeDishes y_Moment_welcomeDishes,
  .code y_Moment_welcomeDishes prog_3_method_22_code 3 (some .int),
  .methodLink R_Nm 246 y_Nm_commonDivisor,
  .static y_Nm_commonDivisor,
  .code y_Nm_commonDivisor prog_1_method_43_code 6 (some .int),
  .methodLink R_Nm 249 y_Math_max_7cf53,
  .methodLink R_law 125 y_Nm_evening,
  .instanceMethod y_Nm_evening,
  .selects R_Nm y_Nm_evening y_Nm_evening,
  .code y_Nm_evening prog_1_method_29_code 5 (some .int),
  .methodLink R_Nm 254 y_Table_copyFrom,
  .methodLink R_Nm 257 y_Nm_drawOf,
  .static y_Nm_drawOf,
  .code y_Nm_drawOf prog_1_method_40_code 4 (some .int),
  .constantLong R_Nm 289 (7919),
  .constantLong R_Nm 291 (6151),
  .constantLong R_Nm 293 (65521),
  .constantLong R_Nm 295 (2)]
theorem TB15_g : TB15.all goodWord = true := by decide +kernel
set_option maxRecDepth 20000 in
theorem TB15_i : TB15 = [684, 685, 686, 687, 688, 689, 690, 691, 692, 693, 694, 695, 696, 697, 698, 699, 700, 701, 702, 703, 704, 705, 706, 707, 708, 709, 710, 711, 712, 713, 714, 715, 716, 717, 718, 719, 720, 721, 722, 723].filterMap (fun i => lw_tbl[i]?) := by decide +kernel
def TB16 : List Cond := [.methodLink R_Nm 260 y_Nm_pretend,
  .instanceMethod y_Nm_pretend,
  .code y_Nm_pretend prog_1_method_39_code 5 none,
  .methodLink R_Nm 286 y_Moment_leastLiked,
  .methodLink R_law 129 y_Nm_keep,
  .instanceMethod y_Nm_keep,
  .selects R_Nm y_Nm_keep y_Nm_keep,
  .code y_Nm_keep prog_1_method_30_code 1 (some .int),
  .methodLink R_law 133 y_Nm_back,
  .instanceMethod y_Nm_back,
  .selects R_Nm y_Nm_back y_Nm_back,
  .code y_Nm_back prog_1_method_31_code 1 (some .int),
  .methodLink R_law 137 y_Nm_count,
  .instanceMethod y_Nm_count,
  .selects R_Nm y_Nm_count y_Nm_count,
  .code y_Nm_count prog_1_method_32_code 2 (some .int),
  .classLink R_law 10 R_Mo,
  .instantiable R_Mo 15,
  .methodLink R_law 12 y_Mo_init,
  .instanceMethod y_Mo_init,
  .code y_Mo_init prog_10_method_1_code 1 none,
  .methodLink R_Mo 1 objectInit,
  .methodLink R_Mo 37 y_Mo_empty,
  .instanceMethod y_Mo_empty,
  .code y_Mo_empty prog_10_method_6_code 2 none,
  .methodLink R_Mo 40 y_Mo_firstGuest,
  .instanceMethod y_Mo_firstGuest,
  .code y_Mo_firstGuest prog_10_method_2_code 4 none,
  .methodLink R_Mo 44 y_Mo_begin,
  .instanceMethod y_Mo_begin,
  .code y_Mo_begin prog_10_method_17_code 2 none,
  .fieldLink R_Mo 59 "NoneMindsModel" "length" "I",
  .fieldLink R_Mo 7 "NoneMindsModel" "text" "[I",
  .fieldLink R_Mo 13 "NoneMindsModel" "table" "[I",
  .fieldLink R_Mo 16 "NoneMindsModel" "read" "[I",
  .fieldLink R_Mo 47 "NoneMindsModel" "hasItem" "Z",
  .fieldLink R_Mo 19 "NoneMindsModel" "now" "[I",
  .fieldLink R_Mo 22 "NoneMindsModel" "before" "[I",
  .fieldLink R_Mo 104 "NoneMindsModel" "undoMany" "I",
  .fieldLink R_Mo 25 "NoneMindsModel" "kept" "[I"]
theorem TB16_g : TB16.all goodWord = true := by decide +kernel
set_option maxRecDepth 20000 in
theorem TB16_i : TB16 = [724, 726, 727, 728, 729, 730, 731, 732, 733, 734, 735, 736, 737, 738, 739, 740, 741, 742, 743, 744, 745, 746, 747, 749, 750, 751, 753, 754, 755, 757, 758, 759, 760, 761, 762, 763, 764, 765, 766, 767].filterMap (fun i => lw_tbl[i]?) := by decide +kernel
def TB17 : List Cond := [.fieldLink R_Mo 107 "NoneMindsModel" "keptMany" "I",
  .fieldLink R_Mo 28 "NoneMindsModel" "heard" "[I",
  .fieldLink R_Mo 101 "NoneMindsModel" "heardMany" "I",
  .fieldLink R_Mo 63 "NoneMindsModel" "spot" "I",
  .fieldLink R_Mo 31 "NoneMindsModel" "told" "[I",
  .fieldLink R_Mo 34 "NoneMindsModel" "vetoes" "[I",
  .lays R_Mo "NoneMindsModel" "length" "I",
  .laysFinal R_Mo "NoneMindsModel" "text" "[I",
  .laysFinal R_Mo "NoneMindsModel" "table" "[I",
  .laysFinal R_Mo "NoneMindsModel" "read" "[I",
  .lays R_Mo "NoneMindsModel" "hasItem" "Z",
  .laysFinal R_Mo "NoneMindsModel" "now" "[I",
  .laysFinal R_Mo "NoneMindsModel" "before" "[I",
  .lays R_Mo "NoneMindsModel" "undoMany" "I",
  .laysFinal R_Mo "NoneMindsModel" "kept" "[I",
  .lays R_Mo "NoneMindsModel" "keptMany" "I",
  .laysFinal R_Mo "NoneMindsModel" "heard" "[I",
  .lays R_Mo "NoneMindsModel" "heardMany" "I",
  .lays R_Mo "NoneMindsModel" "spot" "I",
  .laysFinal R_Mo "NoneMindsModel" "told" "[I",
  .laysFinal R_Mo "NoneMindsModel" "vetoes" "[I",
  .methodLink R_law 17 y_Mo_write,
  .instanceMethod y_Mo_write,
  .selects R_Mo y_Mo_write y_Mo_write,
  .code y_Mo_write prog_10_method_7_code 2 (some .int),
  .constantLong R_Mo 51 (32),
  .constantLong R_Mo 53 (126),
  .methodLink R_Mo 55 y_Mo_in,
  .static y_Mo_in,
  .code y_Mo_in prog_10_method_3_code 6 (some .boolean),
  .methodLink R_law 22 y_Mo_wipe,
  .instanceMethod y_Mo_wipe,
  .selects R_Mo y_Mo_wipe y_Mo_wipe,
  .code y_Mo_wipe prog_10_method_8_code 2 (some .int),
  .methodLink R_law 26 y_Mo_fault,
  .instanceMethod y_Mo_fault,
  .selects R_Mo y_Mo_fault y_Mo_fault,
  .code y_Mo_fault prog_10_method_15_code 1 (some .int),
  .methodLink R_Mo 97 y_Mo_readAll,
  .instanceMethod y_Mo_readAll]
theorem TB17_g : TB17.all goodWord = true := by decide +kernel
set_option maxRecDepth 20000 in
theorem TB17_i : TB17 = [768, 769, 770, 771, 772, 773, 774, 776, 778, 780, 782, 784, 786, 788, 790, 792, 794, 796, 798, 800, 802, 805, 806, 807, 808, 809, 810, 811, 812, 813, 814, 815, 816, 817, 818, 819, 820, 821, 822, 824].filterMap (fun i => lw_tbl[i]?) := by decide +kernel
def TB18 : List Cond := [.code y_Mo_readAll prog_10_method_14_code 2 (some .int),
  .methodLink R_Mo 94 y_Mo_item,
  .instanceMethod y_Mo_item,
  .code y_Mo_item prog_10_method_13_code 2 (some .boolean),
  .methodLink R_Mo 66 y_Mo_letterAt,
  .instanceMethod y_Mo_letterAt,
  .code y_Mo_letterAt prog_10_method_9_code 2 (some .int),
  .methodLink R_Mo 84 y_Mo_one,
  .instanceMethod y_Mo_one,
  .code y_Mo_one prog_10_method_12_code 4 (some .boolean),
  .methodLink R_Mo 80 y_Mo_numbers,
  .instanceMethod y_Mo_numbers,
  .code y_Mo_numbers prog_10_method_10_code 5 (some .boolean),
  .constantLong R_Mo 70 (48),
  .constantLong R_Mo 72 (57),
  .constantLong R_Mo 74 (2),
  .methodLink R_Mo 88 y_Mo_guestItem,
  .instanceMethod y_Mo_guestItem,
  .code y_Mo_guestItem prog_10_method_11_code 4 (some .boolean),
  .constantLong R_Mo 76 (3),
  .constantLong R_Mo 78 (9),
  .constantLong R_Mo 92 (60),
  .methodLink R_law 30 y_Mo_lay,
  .instanceMethod y_Mo_lay,
  .selects R_Mo y_Mo_lay y_Mo_lay,
  .code y_Mo_lay prog_10_method_16_code 1 (some .int),
  .methodLink R_law 35 y_Mo_guest,
  .instanceMethod y_Mo_guest,
  .selects R_Mo y_Mo_guest y_Mo_guest,
  .code y_Mo_guest prog_10_method_27_code 5 (some .int),
  .methodLink R_Mo 127 y_Mo_isGuest,
  .instanceMethod y_Mo_isGuest,
  .code y_Mo_isGuest prog_10_method_18_code 2 (some .boolean),
  .methodLink R_Mo 130 y_Mo_hasHeart,
  .instanceMethod y_Mo_hasHeart,
  .code y_Mo_hasHeart prog_10_method_24_code 7 (some .boolean),
  .methodLink R_Mo 110 y_Mo_has,
  .static y_Mo_has,
  .code y_Mo_has prog_10_method_4_code 2 (some .boolean),
  .methodLink R_Mo 114 y_Mo_worthAt]
theorem TB18_g : TB18.all goodWord = true := by decide +kernel
set_option maxRecDepth 20000 in
theorem TB18_i : TB18 = [825, 826, 828, 829, 830, 832, 833, 834, 836, 837, 838, 840, 841, 842, 843, 844, 845, 847, 848, 849, 850, 851, 852, 853, 854, 855, 856, 857, 858, 859, 860, 862, 863, 864, 866, 867, 868, 869, 870, 871].filterMap (fun i => lw_tbl[i]?) := by decide +kernel
def TB19 : List Cond := [.instanceMethod y_Mo_worthAt,
  .code y_Mo_worthAt prog_10_method_21_code 6 (some .int),
  .methodLink R_Mo 118 y_Mo_leftBy,
  .instanceMethod y_Mo_leftBy,
  .code y_Mo_leftBy prog_10_method_20_code 2 (some .int),
  .methodLink R_Mo 121 y_Mo_mostOf,
  .instanceMethod y_Mo_mostOf,
  .code y_Mo_mostOf prog_10_method_22_code 6 (some .int),
  .methodLink R_law 39 y_Mo_dish,
  .instanceMethod y_Mo_dish,
  .selects R_Mo y_Mo_dish y_Mo_dish,
  .code y_Mo_dish prog_10_method_28_code 5 (some .int),
  .methodLink R_Mo 134 y_Mo_isDish,
  .instanceMethod y_Mo_isDish,
  .code y_Mo_isDish prog_10_method_19_code 2 (some .boolean),
  .methodLink R_Mo 124 y_Mo_sumOf,
  .instanceMethod y_Mo_sumOf,
  .code y_Mo_sumOf prog_10_method_25_code 6 (some .int),
  .methodLink R_law 43 y_Mo_worth,
  .instanceMethod y_Mo_worth,
  .selects R_Mo y_Mo_worth y_Mo_worth,
  .code y_Mo_worth prog_10_method_29_code 3 (some .int),
  .methodLink R_law 47 y_Mo_pass,
  .instanceMethod y_Mo_pass,
  .selects R_Mo y_Mo_pass y_Mo_pass,
  .code y_Mo_pass prog_10_method_31_code 2 (some .int),
  .constantLong R_Mo 137 (30),
  .methodLink R_Mo 139 y_Mo_note,
  .instanceMethod y_Mo_note,
  .code y_Mo_note prog_10_method_30_code 2 none,
  .methodLink R_law 51 y_Mo_veto,
  .instanceMethod y_Mo_veto,
  .selects R_Mo y_Mo_veto y_Mo_veto,
  .code y_Mo_veto prog_10_method_32_code 4 (some .int),
  .methodLink R_Mo 142 y_Mo_ones,
  .static y_Mo_ones,
  .code y_Mo_ones prog_10_method_5_code 3 (some .int),
  .methodLink R_law 55 y_Mo_order,
  .instanceMethod y_Mo_order,
  .selects R_Mo y_Mo_order y_Mo_order]
theorem TB19_g : TB19.all goodWord = true := by decide +kernel
set_option maxRecDepth 20000 in
theorem TB19_i : TB19 = [873, 874, 875, 877, 878, 879, 881, 882, 883, 884, 885, 886, 887, 889, 890, 891, 893, 894, 895, 896, 897, 898, 899, 900, 901, 902, 903, 904, 906, 907, 908, 909, 910, 911, 912, 913, 914, 915, 916, 917].filterMap (fun i => lw_tbl[i]?) := by decide +kernel
def TB20 : List Cond := [.code y_Mo_order prog_10_method_34_code 2 (some .int),
  .methodLink R_Mo 145 y_Mo_canOrder,
  .instanceMethod y_Mo_canOrder,
  .code y_Mo_canOrder prog_10_method_33_code 3 (some .boolean),
  .methodLink R_law 59 y_Mo_undo,
  .instanceMethod y_Mo_undo,
  .selects R_Mo y_Mo_undo y_Mo_undo,
  .code y_Mo_undo prog_10_method_35_code 2 (some .int),
  .methodLink R_law 63 y_Mo_most,
  .instanceMethod y_Mo_most,
  .selects R_Mo y_Mo_most y_Mo_most,
  .code y_Mo_most prog_10_method_36_code 3 (some .int),
  .methodLink R_Mo 148 y_Mo_mostToAll,
  .instanceMethod y_Mo_mostToAll,
  .code y_Mo_mostToAll prog_10_method_26_code 8 (some .int),
  .methodLink R_law 67 y_Mo_fair,
  .instanceMethod y_Mo_fair,
  .selects R_Mo y_Mo_fair y_Mo_fair,
  .code y_Mo_fair prog_10_method_38_code 6 (some .int),
  .methodLink R_Mo 151 y_Mo_worstOff,
  .instanceMethod y_Mo_worstOff,
  .code y_Mo_worstOff prog_10_method_37_code 4 (some .int),
  .methodLink R_law 71 y_Mo_beats,
  .instanceMethod y_Mo_beats,
  .selects R_Mo y_Mo_beats y_Mo_beats,
  .code y_Mo_beats prog_10_method_41_code 3 (some .int),
  .methodLink R_Mo 154 y_Mo_isLeft,
  .instanceMethod y_Mo_isLeft,
  .code y_Mo_isLeft prog_10_method_40_code 2 (some .boolean),
  .methodLink R_Mo 157 y_Mo_lead,
  .instanceMethod y_Mo_lead,
  .code y_Mo_lead prog_10_method_39_code 6 (some .int),
  .methodLink R_law 75 y_Mo_champion,
  .instanceMethod y_Mo_champion,
  .selects R_Mo y_Mo_champion y_Mo_champion,
  .code y_Mo_champion prog_10_method_42_code 4 (some .int),
  .methodLink R_law 79 y_Mo_middle,
  .instanceMethod y_Mo_middle,
  .selects R_Mo y_Mo_middle y_Mo_middle,
  .code y_Mo_middle prog_10_method_43_code 7 (some .int)]
theorem TB20_g : TB20.all goodWord = true := by decide +kernel
set_option maxRecDepth 20000 in
theorem TB20_i : TB20 = [918, 919, 921, 922, 923, 924, 925, 926, 927, 928, 929, 930, 931, 933, 934, 935, 936, 937, 938, 939, 941, 942, 943, 944, 945, 946, 947, 949, 950, 951, 953, 954, 955, 956, 957, 958, 959, 960, 961, 962].filterMap (fun i => lw_tbl[i]?) := by decide +kernel
def TB21 : List Cond := [.methodLink R_law 83 y_Mo_struck,
  .instanceMethod y_Mo_struck,
  .selects R_Mo y_Mo_struck y_Mo_struck,
  .code y_Mo_struck prog_10_method_44_code 4 (some .int),
  .methodLink R_Mo 161 y_Mo_leastOf,
  .instanceMethod y_Mo_leastOf,
  .code y_Mo_leastOf prog_10_method_23_code 6 (some .int),
  .methodLink R_law 87 y_Mo_two,
  .instanceMethod y_Mo_two,
  .selects R_Mo y_Mo_two y_Mo_two,
  .code y_Mo_two prog_10_method_47_code 3 (some .int),
  .methodLink R_Mo 167 y_Mo_bestTwo,
  .instanceMethod y_Mo_bestTwo,
  .code y_Mo_bestTwo prog_10_method_46_code 7 (some .int),
  .methodLink R_Mo 164 y_Mo_both,
  .instanceMethod y_Mo_both,
  .code y_Mo_both prog_10_method_45_code 7 (some .int),
  .methodLink R_law 91 y_Mo_houses,
  .instanceMethod y_Mo_houses,
  .selects R_Mo y_Mo_houses y_Mo_houses,
  .code y_Mo_houses prog_10_method_48_code 3 (some .int),
  .constantLong R_Mo 170 (99),
  .methodLink R_Mo 172 y_Mo_most,
  .methodLink R_law 95 y_Mo_waits,
  .instanceMethod y_Mo_waits,
  .selects R_Mo y_Mo_waits y_Mo_waits,
  .code y_Mo_waits prog_10_method_49_code 7 (some .int),
  .methodLink R_law 100 y_Mo_heard,
  .instanceMethod y_Mo_heard,
  .selects R_Mo y_Mo_heard y_Mo_heard,
  .code y_Mo_heard prog_10_method_50_code 4 (some .int),
  .methodLink R_law 104 y_Mo_forget,
  .instanceMethod y_Mo_forget,
  .selects R_Mo y_Mo_forget y_Mo_forget,
  .code y_Mo_forget prog_10_method_51_code 2 (some .int),
  .methodLink R_law 108 y_Mo_may,
  .instanceMethod y_Mo_may,
  .selects R_Mo y_Mo_may y_Mo_may,
  .code y_Mo_may prog_10_method_52_code 7 (some .int),
  .methodLink R_law 112 y_Mo_suits]
theorem TB21_g : TB21.all goodWord = true := by decide +kernel
set_option maxRecDepth 20000 in
theorem TB21_i : TB21 = [963, 964, 965, 966, 967, 969, 970, 971, 972, 973, 974, 975, 977, 978, 979, 981, 982, 983, 984, 985, 986, 987, 988, 989, 990, 991, 992, 993, 994, 995, 996, 997, 998, 999, 1000, 1001, 1002, 1003, 1004, 1005].filterMap (fun i => lw_tbl[i]?) := by decide +kernel
def TB22 : List Cond := [.instanceMethod y_Mo_suits,
  .selects R_Mo y_Mo_suits y_Mo_suits,
  .code y_Mo_suits prog_10_method_53_code 5 (some .int),
  .methodLink R_law 116 y_Mo_against,
  .instanceMethod y_Mo_against,
  .selects R_Mo y_Mo_against y_Mo_against,
  .code y_Mo_against prog_10_method_54_code 4 (some .int),
  .methodLink R_law 120 y_Mo_ask,
  .instanceMethod y_Mo_ask,
  .selects R_Mo y_Mo_ask y_Mo_ask,
  .code y_Mo_ask prog_10_method_55_code 4 (some .int),
  .methodLink R_law 124 y_Mo_wheel,
  .instanceMethod y_Mo_wheel,
  .selects R_Mo y_Mo_wheel y_Mo_wheel,
  .code y_Mo_wheel prog_10_method_56_code 10 (some .int),
  .constantLong R_Mo 175 (6),
  .methodLink R_law 128 y_Mo_evening,
  .instanceMethod y_Mo_evening,
  .selects R_Mo y_Mo_evening y_Mo_evening,
  .code y_Mo_evening prog_10_method_57_code 11 (some .int),
  .constantLong R_Mo 177 (9999),
  .constantLong R_Mo 179 (20),
  .constantLong R_Mo 181 (7919),
  .constantLong R_Mo 183 (6151),
  .constantLong R_Mo 185 (65521),
  .methodLink R_law 132 y_Mo_keep,
  .instanceMethod y_Mo_keep,
  .selects R_Mo y_Mo_keep y_Mo_keep,
  .code y_Mo_keep prog_10_method_58_code 2 (some .int),
  .methodLink R_law 136 y_Mo_back,
  .instanceMethod y_Mo_back,
  .selects R_Mo y_Mo_back y_Mo_back,
  .code y_Mo_back prog_10_method_59_code 2 (some .int),
  .methodLink R_law 140 y_Mo_count,
  .instanceMethod y_Mo_count,
  .selects R_Mo y_Mo_count y_Mo_count,
  .code y_Mo_count prog_10_method_60_code 2 (some .int),
  .fieldLink R_Str 9 "java/lang/String" "value" "[B",
  .fieldLink R_Str 15 "java/lang/String" "coder" "B"]
theorem TB22_g : TB22.all goodWord = true := by decide +kernel
set_option maxRecDepth 20000 in
theorem TB22_i : TB22 = [1006, 1007, 1008, 1009, 1010, 1011, 1012, 1013, 1014, 1015, 1016, 1017, 1018, 1019, 1020, 1021, 1022, 1023, 1024, 1025, 1026, 1027, 1028, 1029, 1030, 1031, 1032, 1033, 1034, 1035, 1036, 1037, 1038, 1039, 1040, 1041, 1042, 1043, 1044].filterMap (fun i => lw_tbl[i]?) := by decide +kernel
def TB : List Cond := TB0 ++ (TB1 ++ (TB2 ++ (TB3 ++ (TB4 ++ (TB5 ++ (TB6 ++ (TB7 ++ (TB8 ++ (TB9 ++ (TB10 ++ (TB11 ++ (TB12 ++ (TB13 ++ (TB14 ++ (TB15 ++ (TB16 ++ (TB17 ++ (TB18 ++ (TB19 ++ (TB20 ++ (TB21 ++ (TB22))))))))))))))))))))))
theorem tb_of {w : Cond} {ws : List Cond} {ps : List Nat} (h : ws = ps.filterMap (fun i => lw_tbl[i]?)) (hw : w ∈ ws) : w ∈ lw_tbl := by
  rw [h] at hw
  obtain ⟨i, -, hi⟩ := List.mem_filterMap.mp hw
  exact List.mem_of_getElem? hi
theorem TB_in (w : Cond) : w ∈ TB → w ∈ lw_tbl := (fun h => (List.mem_append.mp h).elim (fun h => tb_of TB0_i h) (fun h => (List.mem_append.mp h).elim (fun h => tb_of TB1_i h) (fun h => (List.mem_append.mp h).elim (fun h => tb_of TB2_i h) (fun h => (List.mem_append.mp h).elim (fun h => tb_of TB3_i h) (fun h => (List.mem_append.mp h).elim (fun h => tb_of TB4_i h) (fun h => (List.mem_append.mp h).elim (fun h => tb_of TB5_i h) (fun h => (List.mem_append.mp h).elim (fun h => tb_of TB6_i h) (fun h => (List.mem_append.mp h).elim (fun h => tb_of TB7_i h) (fun h => (List.mem_append.mp h).elim (fun h => tb_of TB8_i h) (fun h => (List.mem_append.mp h).elim (fun h => tb_of TB9_i h) (fun h => (List.mem_append.mp h).elim (fun h => tb_of TB10_i h) (fun h => (List.mem_append.mp h).elim (fun h => tb_of TB11_i h) (fun h => (List.mem_append.mp h).elim (fun h => tb_of TB12_i h) (fun h => (List.mem_append.mp h).elim (fun h => tb_of TB13_i h) (fun h => (List.mem_append.mp h).elim (fun h => tb_of TB14_i h) (fun h => (List.mem_append.mp h).elim (fun h => tb_of TB15_i h) (fun h => (List.mem_append.mp h).elim (fun h => tb_of TB16_i h) (fun h => (List.mem_append.mp h).elim (fun h => tb_of TB17_i h) (fun h => (List.mem_append.mp h).elim (fun h => tb_of TB18_i h) (fun h => (List.mem_append.mp h).elim (fun h => tb_of TB19_i h) (fun h => (List.mem_append.mp h).elim (fun h => tb_of TB20_i h) (fun h => (List.mem_append.mp h).elim (fun h => tb_of TB21_i h) (fun h => tb_of TB22_i h)))))))))))))))))))))))
theorem TB_good (w : Cond) : w ∈ TB → goodWord w = true := (fun h => (List.mem_append.mp h).elim (fun h => List.all_eq_true.mp TB0_g w h) (fun h => (List.mem_append.mp h).elim (fun h => List.all_eq_true.mp TB1_g w h) (fun h => (List.mem_append.mp h).elim (fun h => List.all_eq_true.mp TB2_g w h) (fun h => (List.mem_append.mp h).elim (fun h => List.all_eq_true.mp TB3_g w h) (fun h => (List.mem_append.mp h).elim (fun h => List.all_eq_true.mp TB4_g w h) (fun h => (List.mem_append.mp h).elim (fun h => List.all_eq_true.mp TB5_g w h) (fun h => (List.mem_append.mp h).elim (fun h => List.all_eq_true.mp TB6_g w h) (fun h => (List.mem_append.mp h).elim (fun h => List.all_eq_true.mp TB7_g w h) (fun h => (List.mem_append.mp h).elim (fun h => List.all_eq_true.mp TB8_g w h) (fun h => (List.mem_append.mp h).elim (fun h => List.all_eq_true.mp TB9_g w h) (fun h => (List.mem_append.mp h).elim (fun h => List.all_eq_true.mp TB10_g w h) (fun h => (List.mem_append.mp h).elim (fun h => List.all_eq_true.mp TB11_g w h) (fun h => (List.mem_append.mp h).elim (fun h => List.all_eq_true.mp TB12_g w h) (fun h => (List.mem_append.mp h).elim (fun h => List.all_eq_true.mp TB13_g w h) (fun h => (List.mem_append.mp h).elim (fun h => List.all_eq_true.mp TB14_g w h) (fun h => (List.mem_append.mp h).elim (fun h => List.all_eq_true.mp TB15_g w h) (fun h => (List.mem_append.mp h).elim (fun h => List.all_eq_true.mp TB16_g w h) (fun h => (List.mem_append.mp h).elim (fun h => List.all_eq_true.mp TB17_g w h) (fun h => (List.mem_append.mp h).elim (fun h => List.all_eq_true.mp TB18_g w h) (fun h => (List.mem_append.mp h).elim (fun h => List.all_eq_true.mp TB19_g w h) (fun h => (List.mem_append.mp h).elim (fun h => List.all_eq_true.mp TB20_g w h) (fun h => (List.mem_append.mp h).elim (fun h => List.all_eq_true.mp TB21_g w h) (fun h => List.all_eq_true.mp TB22_g w h)))))))))))))))))))))))
theorem q0 : (.selects R_Reader y_Reader_readItem y_Reader_readItem : Cond) ∈ TB := List.mem_append_left _ (List.mem_of_getElem? (i := 0) rfl)
theorem q1 : (.selects R_Reader y_Reader_peek y_Reader_peek : Cond) ∈ TB := List.mem_append_left _ (List.mem_of_getElem? (i := 1) rfl)
theorem q2 : (.selects R_Reader y_Reader_readDishes y_Reader_readDishes : Cond) ∈ TB := List.mem_append_left _ (List.mem_of_getElem? (i := 2) rfl)
theorem q3 : (.selects R_Reader y_Reader_number y_Reader_number : Cond) ∈ TB := List.mem_append_left _ (List.mem_of_getElem? (i := 3) rfl)
theorem q4 : (.selects R_Reader y_Reader_figure y_Reader_figure : Cond) ∈ TB := List.mem_append_left _ (List.mem_of_getElem? (i := 4) rfl)
theorem q5 : (.selects R_Reader y_Reader_skip y_Reader_skip : Cond) ∈ TB := List.mem_append_left _ (List.mem_of_getElem? (i := 5) rfl)
theorem q6 : (.selects R_Reader y_Reader_readGuest y_Reader_readGuest : Cond) ∈ TB := List.mem_append_left _ (List.mem_of_getElem? (i := 6) rfl)
theorem q7 : (.selects R_Reader y_Reader_readMinutes y_Reader_readMinutes : Cond) ∈ TB := List.mem_append_left _ (List.mem_of_getElem? (i := 7) rfl)
theorem q8 : (.selects R_Reader y_Reader_readVetoes y_Reader_readVetoes : Cond) ∈ TB := List.mem_append_left _ (List.mem_of_getElem? (i := 8) rfl)
theorem q9 : (.selects R_Reader y_Reader_readShuts y_Reader_readShuts : Cond) ∈ TB := List.mem_append_left _ (List.mem_of_getElem? (i := 9) rfl)
theorem q10 : (.selects R_Reader y_Reader_readHunger y_Reader_readHunger : Cond) ∈ TB := List.mem_append_left _ (List.mem_of_getElem? (i := 10) rfl)
theorem q11 : (.selects R_Nm y_Nm_vetoesLeft y_Nm_vetoesLeft : Cond) ∈ TB := List.mem_append_left _ (List.mem_of_getElem? (i := 11) rfl)
theorem q12 : (.selects R_Nm y_Nm_now y_Nm_now : Cond) ∈ TB := List.mem_append_left _ (List.mem_of_getElem? (i := 12) rfl)
theorem q13 : (.selects R_Nm y_Nm_at y_Nm_at : Cond) ∈ TB := List.mem_append_left _ (List.mem_of_getElem? (i := 13) rfl)
theorem q14 : (.selects R_Pile y_Pile_dropLowest y_Pile_dropLowest : Cond) ∈ TB := List.mem_append_left _ (List.mem_of_getElem? (i := 14) rfl)
theorem q15 : (.selects R_Pile y_Pile_get y_Pile_get : Cond) ∈ TB := List.mem_append_left _ (List.mem_of_getElem? (i := 15) rfl)
theorem q16 : (.selects R_Nm y_Nm_dishesLeft y_Nm_dishesLeft : Cond) ∈ TB := List.mem_append_left _ (List.mem_of_getElem? (i := 16) rfl)
theorem q17 : (.selects R_Moment y_Moment_fairRank y_Moment_fairRank : Cond) ∈ TB := List.mem_append_left _ (List.mem_of_getElem? (i := 17) rfl)
theorem q18 : (.selects R_Nm y_Nm_isOnOffer y_Nm_isOnOffer : Cond) ∈ TB := List.mem_append_left _ (List.mem_of_getElem? (i := 18) rfl)
theorem q19 : (.selects R_Moment y_Moment_winsAgainstAll y_Moment_winsAgainstAll : Cond) ∈ TB := List.mem_append_left _ (List.mem_of_getElem? (i := 19) rfl)
theorem q20 : (.selects R_Moment y_Moment_worstAlone y_Moment_worstAlone : Cond) ∈ TB := List.mem_append_left _ (List.mem_of_getElem? (i := 20) rfl)
theorem q21 : (.selects R_Nm y_Nm_agreesWithNotes y_Nm_agreesWithNotes : Cond) ∈ TB := List.mem_append_left _ (List.mem_of_getElem? (i := 21) rfl)
theorem q22 : (.selects R_Nm y_Nm_pretend y_Nm_pretend : Cond) ∈ TB := List.mem_append_left _ (List.mem_of_getElem? (i := 22) rfl)
theorem q23 : (.selects R_Mo y_Mo_empty y_Mo_empty : Cond) ∈ TB := List.mem_append_left _ (List.mem_of_getElem? (i := 23) rfl)
theorem q24 : (.selects R_Mo y_Mo_firstGuest y_Mo_firstGuest : Cond) ∈ TB := List.mem_append_left _ (List.mem_of_getElem? (i := 24) rfl)
theorem q25 : (.selects R_Mo y_Mo_begin y_Mo_begin : Cond) ∈ TB := List.mem_append_left _ (List.mem_of_getElem? (i := 25) rfl)
theorem q26 : (.selects R_Mo y_Mo_readAll y_Mo_readAll : Cond) ∈ TB := List.mem_append_left _ (List.mem_of_getElem? (i := 26) rfl)
theorem q27 : (.selects R_Mo y_Mo_item y_Mo_item : Cond) ∈ TB := List.mem_append_left _ (List.mem_of_getElem? (i := 27) rfl)
theorem q28 : (.selects R_Mo y_Mo_letterAt y_Mo_letterAt : Cond) ∈ TB := List.mem_append_left _ (List.mem_of_getElem? (i := 28) rfl)
theorem q29 : (.selects R_Mo y_Mo_one y_Mo_one : Cond) ∈ TB := List.mem_append_left _ (List.mem_of_getElem? (i := 29) rfl)
theorem q30 : (.selects R_Mo y_Mo_numbers y_Mo_numbers : Cond) ∈ TB := List.mem_append_left _ (List.mem_of_getElem? (i := 30) rfl)
theorem q31 : (.selects R_Mo y_Mo_guestItem y_Mo_guestItem : Cond) ∈ TB := List.mem_append_left _ (List.mem_of_getElem? (i := 31) rfl)
theorem q32 : (.selects R_Mo y_Mo_isGuest y_Mo_isGuest : Cond) ∈ TB := List.mem_append_left _ (List.mem_of_getElem? (i := 32) rfl)
theorem q33 : (.selects R_Mo y_Mo_hasHeart y_Mo_hasHeart : Cond) ∈ TB := List.mem_append_left _ (List.mem_of_getElem? (i := 33) rfl)
theorem q34 : (.selects R_Mo y_Mo_worthAt y_Mo_worthAt : Cond) ∈ TB := List.mem_append_left _ (List.mem_of_getElem? (i := 34) rfl)
theorem q35 : (.selects R_Mo y_Mo_leftBy y_Mo_leftBy : Cond) ∈ TB := List.mem_append_left _ (List.mem_of_getElem? (i := 35) rfl)
theorem q36 : (.selects R_Mo y_Mo_mostOf y_Mo_mostOf : Cond) ∈ TB := List.mem_append_left _ (List.mem_of_getElem? (i := 36) rfl)
theorem q37 : (.selects R_Mo y_Mo_isDish y_Mo_isDish : Cond) ∈ TB := List.mem_append_left _ (List.mem_of_getElem? (i := 37) rfl)
theorem q38 : (.selects R_Mo y_Mo_sumOf y_Mo_sumOf : Cond) ∈ TB := List.mem_append_left _ (List.mem_of_getElem? (i := 38) rfl)
theorem q39 : (.selects R_Mo y_Mo_note y_Mo_note : Cond) ∈ TB := List.mem_append_left _ (List.mem_of_getElem? (i := 39) rfl)
theorem q40 : (.selects R_Mo y_Mo_canOrder y_Mo_canOrder : Cond) ∈ TB := List.mem_append_right _ (List.mem_append_left _ (List.mem_of_getElem? (i := 0) rfl))
theorem q41 : (.selects R_Mo y_Mo_mostToAll y_Mo_mostToAll : Cond) ∈ TB := List.mem_append_right _ (List.mem_append_left _ (List.mem_of_getElem? (i := 1) rfl))
theorem q42 : (.selects R_Mo y_Mo_worstOff y_Mo_worstOff : Cond) ∈ TB := List.mem_append_right _ (List.mem_append_left _ (List.mem_of_getElem? (i := 2) rfl))
theorem q43 : (.selects R_Mo y_Mo_isLeft y_Mo_isLeft : Cond) ∈ TB := List.mem_append_right _ (List.mem_append_left _ (List.mem_of_getElem? (i := 3) rfl))
theorem q44 : (.selects R_Mo y_Mo_lead y_Mo_lead : Cond) ∈ TB := List.mem_append_right _ (List.mem_append_left _ (List.mem_of_getElem? (i := 4) rfl))
theorem q45 : (.selects R_Mo y_Mo_leastOf y_Mo_leastOf : Cond) ∈ TB := List.mem_append_right _ (List.mem_append_left _ (List.mem_of_getElem? (i := 5) rfl))
theorem q46 : (.selects R_Mo y_Mo_bestTwo y_Mo_bestTwo : Cond) ∈ TB := List.mem_append_right _ (List.mem_append_left _ (List.mem_of_getElem? (i := 6) rfl))
theorem q47 : (.selects R_Mo y_Mo_both y_Mo_both : Cond) ∈ TB := List.mem_append_right _ (List.mem_append_left _ (List.mem_of_getElem? (i := 7) rfl))
theorem q48 : (.initialized R_law : Cond) ∈ TB := List.mem_append_right _ (List.mem_append_left _ (List.mem_of_getElem? (i := 8) rfl))
theorem q49 : (.initialized R_Nm : Cond) ∈ TB := List.mem_append_right _ (List.mem_append_left _ (List.mem_of_getElem? (i := 9) rfl))
theorem q50 : (.initialized R_Reader : Cond) ∈ TB := List.mem_append_right _ (List.mem_append_left _ (List.mem_of_getElem? (i := 10) rfl))
theorem q51 : (.initialized R_Table : Cond) ∈ TB := List.mem_append_right _ (List.mem_append_left _ (List.mem_of_getElem? (i := 11) rfl))
theorem q52 : (.initialized R_Pile : Cond) ∈ TB := List.mem_append_right _ (List.mem_append_left _ (List.mem_of_getElem? (i := 12) rfl))
theorem q53 : (.initialized R_Notes : Cond) ∈ TB := List.mem_append_right _ (List.mem_append_left _ (List.mem_of_getElem? (i := 13) rfl))
theorem q54 : (.initialized R_Note : Cond) ∈ TB := List.mem_append_right _ (List.mem_append_left _ (List.mem_of_getElem? (i := 14) rfl))
theorem q55 : (.initialized R_Menu : Cond) ∈ TB := List.mem_append_right _ (List.mem_append_left _ (List.mem_of_getElem? (i := 15) rfl))
theorem q56 : (.initialized R_Moment : Cond) ∈ TB := List.mem_append_right _ (List.mem_append_left _ (List.mem_of_getElem? (i := 16) rfl))
theorem q57 : (.initialized R_Str : Cond) ∈ TB := List.mem_append_right _ (List.mem_append_left _ (List.mem_of_getElem? (i := 17) rfl))
theorem q58 : (.initialized R_SLa : Cond) ∈ TB := List.mem_append_right _ (List.mem_append_left _ (List.mem_of_getElem? (i := 18) rfl))
theorem q59 : (.initialized R_Pre : Cond) ∈ TB := List.mem_append_right _ (List.mem_append_left _ (List.mem_of_getElem? (i := 19) rfl))
theorem q60 : (.initialized R_SUt : Cond) ∈ TB := List.mem_append_right _ (List.mem_append_left _ (List.mem_of_getElem? (i := 20) rfl))
theorem q61 : (.initialized R_Mo : Cond) ∈ TB := List.mem_append_right _ (List.mem_append_left _ (List.mem_of_getElem? (i := 21) rfl))
theorem q62 : (.initialized R_Math : Cond) ∈ TB := List.mem_append_right _ (List.mem_append_left _ (List.mem_of_getElem? (i := 22) rfl))
theorem q63 : (.initialized R_Int : Cond) ∈ TB := List.mem_append_right _ (List.mem_append_left _ (List.mem_of_getElem? (i := 23) rfl))
theorem q64 : (.classLink R_law 7 R_Nm : Cond) ∈ TB := List.mem_append_right _ (List.mem_append_left _ (List.mem_of_getElem? (i := 24) rfl))
theorem q65 : (.instantiable R_Nm 9 : Cond) ∈ TB := List.mem_append_right _ (List.mem_append_left _ (List.mem_of_getElem? (i := 25) rfl))
theorem q66 : (.methodLink R_law 9 y_Nm_init : Cond) ∈ TB := List.mem_append_right _ (List.mem_append_left _ (List.mem_of_getElem? (i := 26) rfl))
theorem q67 : (.instanceMethod y_Nm_init : Cond) ∈ TB := List.mem_append_right _ (List.mem_append_left _ (List.mem_of_getElem? (i := 27) rfl))
theorem q68 : (.code y_Nm_init prog_1_method_1_code 2 none : Cond) ∈ TB := List.mem_append_right _ (List.mem_append_left _ (List.mem_of_getElem? (i := 28) rfl))
theorem q69 : (.methodLink R_Nm 1 objectInit : Cond) ∈ TB := List.mem_append_right _ (List.mem_append_left _ (List.mem_of_getElem? (i := 29) rfl))
theorem q70 : (.instanceMethod objectInit : Cond) ∈ TB := List.mem_append_right _ (List.mem_append_left _ (List.mem_of_getElem? (i := 30) rfl))
theorem q71 : (.code objectInit ⟨#[0xb1]⟩ 1 none : Cond) ∈ TB := List.mem_append_right _ (List.mem_append_left _ (List.mem_of_getElem? (i := 31) rfl))
theorem q72 : (.classLink R_Nm 7 R_Reader : Cond) ∈ TB := List.mem_append_right _ (List.mem_append_left _ (List.mem_of_getElem? (i := 32) rfl))
theorem q73 : (.instantiable R_Reader 4 : Cond) ∈ TB := List.mem_append_right _ (List.mem_append_left _ (List.mem_of_getElem? (i := 33) rfl))
theorem q74 : (.instanceMethod y_Reader_init : Cond) ∈ TB := List.mem_append_right _ (List.mem_append_left _ (List.mem_of_getElem? (i := 34) rfl))
theorem q75 : (.code y_Reader_init prog_7_method_1_code 1 none : Cond) ∈ TB := List.mem_append_right _ (List.mem_append_left _ (List.mem_of_getElem? (i := 35) rfl))
theorem q76 : (.methodLink R_Reader 3 objectInit : Cond) ∈ TB := List.mem_append_right _ (List.mem_append_left _ (List.mem_of_getElem? (i := 36) rfl))
theorem q77 : (.fieldLink R_Reader 9 "NoneMinds$Reader" "letters" "[I" : Cond) ∈ TB := List.mem_append_right _ (List.mem_append_left _ (List.mem_of_getElem? (i := 37) rfl))
theorem q78 : (.fieldLink R_Nm 83 "NoneMinds$Reader" "length" "I" : Cond) ∈ TB := List.mem_append_right _ (List.mem_append_left _ (List.mem_of_getElem? (i := 38) rfl))
theorem q79 : (.fieldLink R_Reader 15 "NoneMinds$Reader" "length" "I" : Cond) ∈ TB := List.mem_append_right _ (List.mem_append_left _ (List.mem_of_getElem? (i := 39) rfl))
theorem q80 : (.fieldLink R_Reader 28 "NoneMinds$Reader" "place" "I" : Cond) ∈ TB := List.mem_append_right _ (List.mem_append_right _ (List.mem_append_left _ (List.mem_of_getElem? (i := 0) rfl)))
theorem q81 : (.fieldLink R_Reader 31 "NoneMinds$Reader" "onlyDishesSoFar" "Z" : Cond) ∈ TB := List.mem_append_right _ (List.mem_append_right _ (List.mem_append_left _ (List.mem_of_getElem? (i := 1) rfl)))
theorem q82 : (.laysFinal R_Reader "NoneMinds$Reader" "letters" "[I" : Cond) ∈ TB := List.mem_append_right _ (List.mem_append_right _ (List.mem_append_left _ (List.mem_of_getElem? (i := 2) rfl)))
theorem q83 : (.lays R_Reader "NoneMinds$Reader" "length" "I" : Cond) ∈ TB := List.mem_append_right _ (List.mem_append_right _ (List.mem_append_left _ (List.mem_of_getElem? (i := 3) rfl)))
theorem q84 : (.lays R_Reader "NoneMinds$Reader" "place" "I" : Cond) ∈ TB := List.mem_append_right _ (List.mem_append_right _ (List.mem_append_left _ (List.mem_of_getElem? (i := 4) rfl)))
theorem q85 : (.lays R_Reader "NoneMinds$Reader" "onlyDishesSoFar" "Z" : Cond) ∈ TB := List.mem_append_right _ (List.mem_append_right _ (List.mem_append_left _ (List.mem_of_getElem? (i := 5) rfl)))
theorem q86 : (.arrayClass .int : Cond) ∈ TB := List.mem_append_right _ (List.mem_append_right _ (List.mem_append_left _ (List.mem_of_getElem? (i := 6) rfl)))
theorem q87 : (.classLink R_Nm 16 R_Table : Cond) ∈ TB := List.mem_append_right _ (List.mem_append_right _ (List.mem_append_left _ (List.mem_of_getElem? (i := 7) rfl)))
theorem q88 : (.instantiable R_Table 4 : Cond) ∈ TB := List.mem_append_right _ (List.mem_append_right _ (List.mem_append_left _ (List.mem_of_getElem? (i := 8) rfl)))
theorem q89 : (.instanceMethod y_Table_init : Cond) ∈ TB := List.mem_append_right _ (List.mem_append_right _ (List.mem_append_left _ (List.mem_of_getElem? (i := 9) rfl)))
theorem q90 : (.code y_Table_init prog_8_method_1_code 1 none : Cond) ∈ TB := List.mem_append_right _ (List.mem_append_right _ (List.mem_append_left _ (List.mem_of_getElem? (i := 10) rfl)))
theorem q91 : (.methodLink R_Table 3 objectInit : Cond) ∈ TB := List.mem_append_right _ (List.mem_append_right _ (List.mem_append_left _ (List.mem_of_getElem? (i := 11) rfl)))
theorem q92 : (.fieldLink R_Table 15 "NoneMinds$Table" "minute" "I" : Cond) ∈ TB := List.mem_append_right _ (List.mem_append_right _ (List.mem_append_left _ (List.mem_of_getElem? (i := 12) rfl)))
theorem q93 : (.fieldLink R_Nm 145 "NoneMinds$Table" "minute" "I" : Cond) ∈ TB := List.mem_append_right _ (List.mem_append_right _ (List.mem_append_left _ (List.mem_of_getElem? (i := 13) rfl)))
theorem q94 : (.fieldLink R_Table 18 "NoneMinds$Table" "vetoed" "I" : Cond) ∈ TB := List.mem_append_right _ (List.mem_append_right _ (List.mem_append_left _ (List.mem_of_getElem? (i := 14) rfl)))
theorem q95 : (.fieldLink R_Nm 201 "NoneMinds$Table" "vetoed" "I" : Cond) ∈ TB := List.mem_append_right _ (List.mem_append_right _ (List.mem_append_left _ (List.mem_of_getElem? (i := 15) rfl)))
theorem q96 : (.fieldLink R_Table 9 "NoneMinds$Table" "ordered" "I" : Cond) ∈ TB := List.mem_append_right _ (List.mem_append_right _ (List.mem_append_left _ (List.mem_of_getElem? (i := 16) rfl)))
theorem q97 : (.fieldLink R_Nm 164 "NoneMinds$Table" "ordered" "I" : Cond) ∈ TB := List.mem_append_right _ (List.mem_append_right _ (List.mem_append_left _ (List.mem_of_getElem? (i := 17) rfl)))
theorem q98 : (.fieldLink R_Table 21 "NoneMinds$Table" "spent" "I" : Cond) ∈ TB := List.mem_append_right _ (List.mem_append_right _ (List.mem_append_left _ (List.mem_of_getElem? (i := 18) rfl)))
theorem q99 : (.lays R_Table "NoneMinds$Table" "minute" "I" : Cond) ∈ TB := List.mem_append_right _ (List.mem_append_right _ (List.mem_append_left _ (List.mem_of_getElem? (i := 19) rfl)))
theorem q100 : (.lays R_Table "NoneMinds$Table" "vetoed" "I" : Cond) ∈ TB := List.mem_append_right _ (List.mem_append_right _ (List.mem_append_left _ (List.mem_of_getElem? (i := 20) rfl)))
theorem q101 : (.lays R_Table "NoneMinds$Table" "ordered" "I" : Cond) ∈ TB := List.mem_append_right _ (List.mem_append_right _ (List.mem_append_left _ (List.mem_of_getElem? (i := 21) rfl)))
theorem q102 : (.lays R_Table "NoneMinds$Table" "spent" "I" : Cond) ∈ TB := List.mem_append_right _ (List.mem_append_right _ (List.mem_append_left _ (List.mem_of_getElem? (i := 22) rfl)))
theorem q103 : (.classLink R_Nm 26 R_Pile : Cond) ∈ TB := List.mem_append_right _ (List.mem_append_right _ (List.mem_append_left _ (List.mem_of_getElem? (i := 23) rfl)))
theorem q104 : (.instantiable R_Pile 2 : Cond) ∈ TB := List.mem_append_right _ (List.mem_append_right _ (List.mem_append_left _ (List.mem_of_getElem? (i := 24) rfl)))
theorem q105 : (.methodLink R_Nm 28 y_Pile_init : Cond) ∈ TB := List.mem_append_right _ (List.mem_append_right _ (List.mem_append_left _ (List.mem_of_getElem? (i := 25) rfl)))
theorem q106 : (.instanceMethod y_Pile_init : Cond) ∈ TB := List.mem_append_right _ (List.mem_append_right _ (List.mem_append_left _ (List.mem_of_getElem? (i := 26) rfl)))
theorem q107 : (.code y_Pile_init prog_6_method_1_code 3 none : Cond) ∈ TB := List.mem_append_right _ (List.mem_append_right _ (List.mem_append_left _ (List.mem_of_getElem? (i := 27) rfl)))
theorem q108 : (.methodLink R_Pile 1 objectInit : Cond) ∈ TB := List.mem_append_right _ (List.mem_append_right _ (List.mem_append_left _ (List.mem_of_getElem? (i := 28) rfl)))
theorem q109 : (.classLink R_Pile 7 R_Table : Cond) ∈ TB := List.mem_append_right _ (List.mem_append_right _ (List.mem_append_left _ (List.mem_of_getElem? (i := 29) rfl)))
theorem q110 : (.fieldLink R_Pile 16 "NoneMinds$Pile" "size" "I" : Cond) ∈ TB := List.mem_append_right _ (List.mem_append_right _ (List.mem_append_left _ (List.mem_of_getElem? (i := 30) rfl)))
theorem q111 : (.fieldLink R_Nm 96 "NoneMinds$Pile" "size" "I" : Cond) ∈ TB := List.mem_append_right _ (List.mem_append_right _ (List.mem_append_left _ (List.mem_of_getElem? (i := 31) rfl)))
theorem q112 : (.fieldLink R_Pile 9 "NoneMinds$Pile" "tables" "[LNoneMinds$Table;" : Cond) ∈ TB := List.mem_append_right _ (List.mem_append_right _ (List.mem_append_left _ (List.mem_of_getElem? (i := 32) rfl)))
theorem q113 : (.lays R_Pile "NoneMinds$Pile" "size" "I" : Cond) ∈ TB := List.mem_append_right _ (List.mem_append_right _ (List.mem_append_left _ (List.mem_of_getElem? (i := 33) rfl)))
theorem q114 : (.laysFinal R_Pile "NoneMinds$Pile" "tables" "[LNoneMinds$Table;" : Cond) ∈ TB := List.mem_append_right _ (List.mem_append_right _ (List.mem_append_left _ (List.mem_of_getElem? (i := 34) rfl)))
theorem q115 : (.classLink R_Nm 38 R_Notes : Cond) ∈ TB := List.mem_append_right _ (List.mem_append_right _ (List.mem_append_left _ (List.mem_of_getElem? (i := 35) rfl)))
theorem q116 : (.instantiable R_Notes 2 : Cond) ∈ TB := List.mem_append_right _ (List.mem_append_right _ (List.mem_append_left _ (List.mem_of_getElem? (i := 36) rfl)))
theorem q117 : (.methodLink R_Nm 40 y_Notes_init : Cond) ∈ TB := List.mem_append_right _ (List.mem_append_right _ (List.mem_append_left _ (List.mem_of_getElem? (i := 37) rfl)))
theorem q118 : (.instanceMethod y_Notes_init : Cond) ∈ TB := List.mem_append_right _ (List.mem_append_right _ (List.mem_append_left _ (List.mem_of_getElem? (i := 38) rfl)))
theorem q119 : (.code y_Notes_init prog_5_method_1_code 2 none : Cond) ∈ TB := List.mem_append_right _ (List.mem_append_right _ (List.mem_append_left _ (List.mem_of_getElem? (i := 39) rfl)))
theorem q120 : (.methodLink R_Notes 3 objectInit : Cond) ∈ TB := List.mem_append_right _ (List.mem_append_right _ (List.mem_append_right _ (List.mem_append_left _ (List.mem_of_getElem? (i := 0) rfl))))
theorem q121 : (.classLink R_Notes 9 R_Note : Cond) ∈ TB := List.mem_append_right _ (List.mem_append_right _ (List.mem_append_right _ (List.mem_append_left _ (List.mem_of_getElem? (i := 1) rfl))))
theorem q122 : (.instantiable R_Note 5 : Cond) ∈ TB := List.mem_append_right _ (List.mem_append_right _ (List.mem_append_right _ (List.mem_append_left _ (List.mem_of_getElem? (i := 2) rfl))))
theorem q123 : (.instanceMethod y_Note_init : Cond) ∈ TB := List.mem_append_right _ (List.mem_append_right _ (List.mem_append_right _ (List.mem_append_left _ (List.mem_of_getElem? (i := 3) rfl))))
theorem q124 : (.code y_Note_init prog_4_method_1_code 1 none : Cond) ∈ TB := List.mem_append_right _ (List.mem_append_right _ (List.mem_append_right _ (List.mem_append_left _ (List.mem_of_getElem? (i := 4) rfl))))
theorem q125 : (.methodLink R_Note 1 objectInit : Cond) ∈ TB := List.mem_append_right _ (List.mem_append_right _ (List.mem_append_right _ (List.mem_append_left _ (List.mem_of_getElem? (i := 5) rfl))))
theorem q126 : (.fieldLink R_Nm 212 "NoneMinds$Note" "guest" "I" : Cond) ∈ TB := List.mem_append_right _ (List.mem_append_right _ (List.mem_append_right _ (List.mem_append_left _ (List.mem_of_getElem? (i := 6) rfl))))
theorem q127 : (.fieldLink R_Nm 217 "NoneMinds$Note" "dish" "I" : Cond) ∈ TB := List.mem_append_right _ (List.mem_append_right _ (List.mem_append_right _ (List.mem_append_left _ (List.mem_of_getElem? (i := 7) rfl))))
theorem q128 : (.fieldLink R_Nm 220 "NoneMinds$Note" "heart" "Z" : Cond) ∈ TB := List.mem_append_right _ (List.mem_append_right _ (List.mem_append_right _ (List.mem_append_left _ (List.mem_of_getElem? (i := 8) rfl))))
theorem q129 : (.fieldLink R_Nm 224 "NoneMinds$Note" "minute" "I" : Cond) ∈ TB := List.mem_append_right _ (List.mem_append_right _ (List.mem_append_right _ (List.mem_append_left _ (List.mem_of_getElem? (i := 9) rfl))))
theorem q130 : (.fieldLink R_Nm 225 "NoneMinds$Note" "vetoed" "I" : Cond) ∈ TB := List.mem_append_right _ (List.mem_append_right _ (List.mem_append_right _ (List.mem_append_left _ (List.mem_of_getElem? (i := 10) rfl))))
theorem q131 : (.lays R_Note "NoneMinds$Note" "guest" "I" : Cond) ∈ TB := List.mem_append_right _ (List.mem_append_right _ (List.mem_append_right _ (List.mem_append_left _ (List.mem_of_getElem? (i := 11) rfl))))
theorem q132 : (.lays R_Note "NoneMinds$Note" "dish" "I" : Cond) ∈ TB := List.mem_append_right _ (List.mem_append_right _ (List.mem_append_right _ (List.mem_append_left _ (List.mem_of_getElem? (i := 12) rfl))))
theorem q133 : (.lays R_Note "NoneMinds$Note" "heart" "Z" : Cond) ∈ TB := List.mem_append_right _ (List.mem_append_right _ (List.mem_append_right _ (List.mem_append_left _ (List.mem_of_getElem? (i := 13) rfl))))
theorem q134 : (.lays R_Note "NoneMinds$Note" "minute" "I" : Cond) ∈ TB := List.mem_append_right _ (List.mem_append_right _ (List.mem_append_right _ (List.mem_append_left _ (List.mem_of_getElem? (i := 14) rfl))))
theorem q135 : (.lays R_Note "NoneMinds$Note" "vetoed" "I" : Cond) ∈ TB := List.mem_append_right _ (List.mem_append_right _ (List.mem_append_right _ (List.mem_append_left _ (List.mem_of_getElem? (i := 15) rfl))))
theorem q136 : (.fieldLink R_Notes 18 "NoneMinds$Notes" "size" "I" : Cond) ∈ TB := List.mem_append_right _ (List.mem_append_right _ (List.mem_append_right _ (List.mem_append_left _ (List.mem_of_getElem? (i := 16) rfl))))
theorem q137 : (.fieldLink R_Nm 99 "NoneMinds$Notes" "size" "I" : Cond) ∈ TB := List.mem_append_right _ (List.mem_append_right _ (List.mem_append_right _ (List.mem_append_left _ (List.mem_of_getElem? (i := 17) rfl))))
theorem q138 : (.fieldLink R_Notes 11 "NoneMinds$Notes" "notes" "[LNoneMinds$Note;" : Cond) ∈ TB := List.mem_append_right _ (List.mem_append_right _ (List.mem_append_right _ (List.mem_append_left _ (List.mem_of_getElem? (i := 18) rfl))))
theorem q139 : (.lays R_Notes "NoneMinds$Notes" "size" "I" : Cond) ∈ TB := List.mem_append_right _ (List.mem_append_right _ (List.mem_append_right _ (List.mem_append_left _ (List.mem_of_getElem? (i := 19) rfl))))
theorem q140 : (.laysFinal R_Notes "NoneMinds$Notes" "notes" "[LNoneMinds$Note;" : Cond) ∈ TB := List.mem_append_right _ (List.mem_append_right _ (List.mem_append_right _ (List.mem_append_left _ (List.mem_of_getElem? (i := 20) rfl))))
theorem q141 : (.classLink R_Nm 45 R_Menu : Cond) ∈ TB := List.mem_append_right _ (List.mem_append_right _ (List.mem_append_right _ (List.mem_append_left _ (List.mem_of_getElem? (i := 21) rfl))))
theorem q142 : (.instantiable R_Menu 8 : Cond) ∈ TB := List.mem_append_right _ (List.mem_append_right _ (List.mem_append_right _ (List.mem_append_left _ (List.mem_of_getElem? (i := 22) rfl))))
theorem q143 : (.instanceMethod y_Menu_init : Cond) ∈ TB := List.mem_append_right _ (List.mem_append_right _ (List.mem_append_right _ (List.mem_append_left _ (List.mem_of_getElem? (i := 23) rfl))))
theorem q144 : (.code y_Menu_init prog_2_method_1_code 1 none : Cond) ∈ TB := List.mem_append_right _ (List.mem_append_right _ (List.mem_append_right _ (List.mem_append_left _ (List.mem_of_getElem? (i := 24) rfl))))
theorem q145 : (.methodLink R_Menu 3 objectInit : Cond) ∈ TB := List.mem_append_right _ (List.mem_append_right _ (List.mem_append_right _ (List.mem_append_left _ (List.mem_of_getElem? (i := 25) rfl))))
theorem q146 : (.fieldLink R_Menu 21 "NoneMinds$Menu" "dishes" "I" : Cond) ∈ TB := List.mem_append_right _ (List.mem_append_right _ (List.mem_append_right _ (List.mem_append_left _ (List.mem_of_getElem? (i := 26) rfl))))
theorem q147 : (.fieldLink R_Reader 64 "NoneMinds$Menu" "dishes" "I" : Cond) ∈ TB := List.mem_append_right _ (List.mem_append_right _ (List.mem_append_right _ (List.mem_append_left _ (List.mem_of_getElem? (i := 27) rfl))))
theorem q148 : (.fieldLink R_Moment 39 "NoneMinds$Menu" "dishes" "I" : Cond) ∈ TB := List.mem_append_right _ (List.mem_append_right _ (List.mem_append_right _ (List.mem_append_left _ (List.mem_of_getElem? (i := 28) rfl))))
theorem q149 : (.fieldLink R_Nm 263 "NoneMinds$Menu" "dishes" "I" : Cond) ∈ TB := List.mem_append_right _ (List.mem_append_right _ (List.mem_append_right _ (List.mem_append_left _ (List.mem_of_getElem? (i := 29) rfl))))
theorem q150 : (.fieldLink R_Menu 25 "NoneMinds$Menu" "guests" "I" : Cond) ∈ TB := List.mem_append_right _ (List.mem_append_right _ (List.mem_append_right _ (List.mem_append_left _ (List.mem_of_getElem? (i := 30) rfl))))
theorem q151 : (.fieldLink R_Moment 33 "NoneMinds$Menu" "guests" "I" : Cond) ∈ TB := List.mem_append_right _ (List.mem_append_right _ (List.mem_append_right _ (List.mem_append_left _ (List.mem_of_getElem? (i := 31) rfl))))
theorem q152 : (.fieldLink R_Nm 90 "NoneMinds$Menu" "guests" "I" : Cond) ∈ TB := List.mem_append_right _ (List.mem_append_right _ (List.mem_append_right _ (List.mem_append_left _ (List.mem_of_getElem? (i := 32) rfl))))
theorem q153 : (.fieldLink R_Reader 75 "NoneMinds$Menu" "guests" "I" : Cond) ∈ TB := List.mem_append_right _ (List.mem_append_right _ (List.mem_append_right _ (List.mem_append_left _ (List.mem_of_getElem? (i := 33) rfl))))
theorem q154 : (.fieldLink R_Menu 28 "NoneMinds$Menu" "vetoes" "I" : Cond) ∈ TB := List.mem_append_right _ (List.mem_append_right _ (List.mem_append_right _ (List.mem_append_left _ (List.mem_of_getElem? (i := 34) rfl))))
theorem q155 : (.fieldLink R_Reader 93 "NoneMinds$Menu" "vetoes" "I" : Cond) ∈ TB := List.mem_append_right _ (List.mem_append_right _ (List.mem_append_right _ (List.mem_append_left _ (List.mem_of_getElem? (i := 35) rfl))))
theorem q156 : (.fieldLink R_Nm 273 "NoneMinds$Menu" "vetoes" "I" : Cond) ∈ TB := List.mem_append_right _ (List.mem_append_right _ (List.mem_append_right _ (List.mem_append_left _ (List.mem_of_getElem? (i := 36) rfl))))
theorem q157 : (.fieldLink R_Menu 31 "NoneMinds$Menu" "shuts" "I" : Cond) ∈ TB := List.mem_append_right _ (List.mem_append_right _ (List.mem_append_right _ (List.mem_append_left _ (List.mem_of_getElem? (i := 37) rfl))))
theorem q158 : (.fieldLink R_Reader 96 "NoneMinds$Menu" "shuts" "I" : Cond) ∈ TB := List.mem_append_right _ (List.mem_append_right _ (List.mem_append_right _ (List.mem_append_left _ (List.mem_of_getElem? (i := 38) rfl))))
theorem q159 : (.fieldLink R_Moment 21 "NoneMinds$Menu" "hunger" "I" : Cond) ∈ TB := List.mem_append_right _ (List.mem_append_right _ (List.mem_append_right _ (List.mem_append_left _ (List.mem_of_getElem? (i := 39) rfl))))
theorem q160 : (.fieldLink R_Menu 34 "NoneMinds$Menu" "hunger" "I" : Cond) ∈ TB := List.mem_append_right _ (List.mem_append_right _ (List.mem_append_right _ (List.mem_append_right _ (List.mem_append_left _ (List.mem_of_getElem? (i := 0) rfl)))))
theorem q161 : (.fieldLink R_Reader 99 "NoneMinds$Menu" "hunger" "I" : Cond) ∈ TB := List.mem_append_right _ (List.mem_append_right _ (List.mem_append_right _ (List.mem_append_right _ (List.mem_append_left _ (List.mem_of_getElem? (i := 1) rfl)))))
theorem q162 : (.fieldLink R_Menu 9 "NoneMinds$Menu" "kinds" "[I" : Cond) ∈ TB := List.mem_append_right _ (List.mem_append_right _ (List.mem_append_right _ (List.mem_append_right _ (List.mem_append_left _ (List.mem_of_getElem? (i := 2) rfl)))))
theorem q163 : (.fieldLink R_Reader 81 "NoneMinds$Menu" "kinds" "[I" : Cond) ∈ TB := List.mem_append_right _ (List.mem_append_right _ (List.mem_append_right _ (List.mem_append_right _ (List.mem_append_left _ (List.mem_of_getElem? (i := 3) rfl)))))
theorem q164 : (.fieldLink R_Menu 15 "NoneMinds$Menu" "told" "[I" : Cond) ∈ TB := List.mem_append_right _ (List.mem_append_right _ (List.mem_append_right _ (List.mem_append_right _ (List.mem_append_left _ (List.mem_of_getElem? (i := 4) rfl)))))
theorem q165 : (.fieldLink R_Reader 84 "NoneMinds$Menu" "told" "[I" : Cond) ∈ TB := List.mem_append_right _ (List.mem_append_right _ (List.mem_append_right _ (List.mem_append_right _ (List.mem_append_left _ (List.mem_of_getElem? (i := 5) rfl)))))
theorem q166 : (.fieldLink R_Menu 18 "NoneMinds$Menu" "minutes" "[I" : Cond) ∈ TB := List.mem_append_right _ (List.mem_append_right _ (List.mem_append_right _ (List.mem_append_right _ (List.mem_append_left _ (List.mem_of_getElem? (i := 6) rfl)))))
theorem q167 : (.fieldLink R_Reader 90 "NoneMinds$Menu" "minutes" "[I" : Cond) ∈ TB := List.mem_append_right _ (List.mem_append_right _ (List.mem_append_right _ (List.mem_append_right _ (List.mem_append_left _ (List.mem_of_getElem? (i := 7) rfl)))))
theorem q168 : (.lays R_Menu "NoneMinds$Menu" "dishes" "I" : Cond) ∈ TB := List.mem_append_right _ (List.mem_append_right _ (List.mem_append_right _ (List.mem_append_right _ (List.mem_append_left _ (List.mem_of_getElem? (i := 8) rfl)))))
theorem q169 : (.lays R_Menu "NoneMinds$Menu" "guests" "I" : Cond) ∈ TB := List.mem_append_right _ (List.mem_append_right _ (List.mem_append_right _ (List.mem_append_right _ (List.mem_append_left _ (List.mem_of_getElem? (i := 9) rfl)))))
theorem q170 : (.lays R_Menu "NoneMinds$Menu" "vetoes" "I" : Cond) ∈ TB := List.mem_append_right _ (List.mem_append_right _ (List.mem_append_right _ (List.mem_append_right _ (List.mem_append_left _ (List.mem_of_getElem? (i := 10) rfl)))))
theorem q171 : (.lays R_Menu "NoneMinds$Menu" "shuts" "I" : Cond) ∈ TB := List.mem_append_right _ (List.mem_append_right _ (List.mem_append_right _ (List.mem_append_right _ (List.mem_append_left _ (List.mem_of_getElem? (i := 11) rfl)))))
theorem q172 : (.lays R_Menu "NoneMinds$Menu" "hunger" "I" : Cond) ∈ TB := List.mem_append_right _ (List.mem_append_right _ (List.mem_append_right _ (List.mem_append_right _ (List.mem_append_left _ (List.mem_of_getElem? (i := 12) rfl)))))
theorem q173 : (.laysFinal R_Menu "NoneMinds$Menu" "kinds" "[I" : Cond) ∈ TB := List.mem_append_right _ (List.mem_append_right _ (List.mem_append_right _ (List.mem_append_right _ (List.mem_append_left _ (List.mem_of_getElem? (i := 13) rfl)))))
theorem q174 : (.laysFinal R_Menu "NoneMinds$Menu" "told" "[I" : Cond) ∈ TB := List.mem_append_right _ (List.mem_append_right _ (List.mem_append_right _ (List.mem_append_right _ (List.mem_append_left _ (List.mem_of_getElem? (i := 14) rfl)))))
theorem q175 : (.laysFinal R_Menu "NoneMinds$Menu" "minutes" "[I" : Cond) ∈ TB := List.mem_append_right _ (List.mem_append_right _ (List.mem_append_right _ (List.mem_append_right _ (List.mem_append_left _ (List.mem_of_getElem? (i := 15) rfl)))))
theorem q176 : (.classLink R_Nm 55 R_Moment : Cond) ∈ TB := List.mem_append_right _ (List.mem_append_right _ (List.mem_append_right _ (List.mem_append_right _ (List.mem_append_left _ (List.mem_of_getElem? (i := 16) rfl)))))
theorem q177 : (.instantiable R_Moment 3 : Cond) ∈ TB := List.mem_append_right _ (List.mem_append_right _ (List.mem_append_right _ (List.mem_append_right _ (List.mem_append_left _ (List.mem_of_getElem? (i := 17) rfl)))))
theorem q178 : (.methodLink R_Nm 57 y_Moment_init : Cond) ∈ TB := List.mem_append_right _ (List.mem_append_right _ (List.mem_append_right _ (List.mem_append_right _ (List.mem_append_left _ (List.mem_of_getElem? (i := 18) rfl)))))
theorem q179 : (.instanceMethod y_Moment_init : Cond) ∈ TB := List.mem_append_right _ (List.mem_append_right _ (List.mem_append_right _ (List.mem_append_right _ (List.mem_append_left _ (List.mem_of_getElem? (i := 19) rfl)))))
theorem q180 : (.code y_Moment_init prog_3_method_1_code 2 none : Cond) ∈ TB := List.mem_append_right _ (List.mem_append_right _ (List.mem_append_right _ (List.mem_append_right _ (List.mem_append_left _ (List.mem_of_getElem? (i := 20) rfl)))))
theorem q181 : (.methodLink R_Moment 3 objectInit : Cond) ∈ TB := List.mem_append_right _ (List.mem_append_right _ (List.mem_append_right _ (List.mem_append_right _ (List.mem_append_left _ (List.mem_of_getElem? (i := 21) rfl)))))
theorem q182 : (.fieldLink R_Moment 9 "NoneMinds$Moment" "menu" "LNoneMinds$Menu;" : Cond) ∈ TB := List.mem_append_right _ (List.mem_append_right _ (List.mem_append_right _ (List.mem_append_right _ (List.mem_append_left _ (List.mem_of_getElem? (i := 22) rfl)))))
theorem q183 : (.fieldLink R_Nm 266 "NoneMinds$Moment" "menu" "LNoneMinds$Menu;" : Cond) ∈ TB := List.mem_append_right _ (List.mem_append_right _ (List.mem_append_right _ (List.mem_append_right _ (List.mem_append_left _ (List.mem_of_getElem? (i := 23) rfl)))))
theorem q184 : (.fieldLink R_Moment 25 "NoneMinds$Moment" "minute" "I" : Cond) ∈ TB := List.mem_append_right _ (List.mem_append_right _ (List.mem_append_right _ (List.mem_append_right _ (List.mem_append_left _ (List.mem_of_getElem? (i := 24) rfl)))))
theorem q185 : (.fieldLink R_Nm 269 "NoneMinds$Moment" "minute" "I" : Cond) ∈ TB := List.mem_append_right _ (List.mem_append_right _ (List.mem_append_right _ (List.mem_append_right _ (List.mem_append_left _ (List.mem_of_getElem? (i := 25) rfl)))))
theorem q186 : (.fieldLink R_Moment 42 "NoneMinds$Moment" "left" "I" : Cond) ∈ TB := List.mem_append_right _ (List.mem_append_right _ (List.mem_append_right _ (List.mem_append_right _ (List.mem_append_left _ (List.mem_of_getElem? (i := 26) rfl)))))
theorem q187 : (.fieldLink R_Nm 232 "NoneMinds$Moment" "left" "I" : Cond) ∈ TB := List.mem_append_right _ (List.mem_append_right _ (List.mem_append_right _ (List.mem_append_right _ (List.mem_append_left _ (List.mem_of_getElem? (i := 27) rfl)))))
theorem q188 : (.lays R_Moment "NoneMinds$Moment" "menu" "LNoneMinds$Menu;" : Cond) ∈ TB := List.mem_append_right _ (List.mem_append_right _ (List.mem_append_right _ (List.mem_append_right _ (List.mem_append_left _ (List.mem_of_getElem? (i := 28) rfl)))))
theorem q189 : (.lays R_Moment "NoneMinds$Moment" "minute" "I" : Cond) ∈ TB := List.mem_append_right _ (List.mem_append_right _ (List.mem_append_right _ (List.mem_append_right _ (List.mem_append_left _ (List.mem_of_getElem? (i := 29) rfl)))))
theorem q190 : (.lays R_Moment "NoneMinds$Moment" "left" "I" : Cond) ∈ TB := List.mem_append_right _ (List.mem_append_right _ (List.mem_append_right _ (List.mem_append_right _ (List.mem_append_left _ (List.mem_of_getElem? (i := 30) rfl)))))
theorem q191 : (.methodLink R_Nm 66 y_Str_length_8abf5 : Cond) ∈ TB := List.mem_append_right _ (List.mem_append_right _ (List.mem_append_right _ (List.mem_append_right _ (List.mem_append_left _ (List.mem_of_getElem? (i := 31) rfl)))))
theorem q192 : (.instanceMethod y_Str_length_8abf5 : Cond) ∈ TB := List.mem_append_right _ (List.mem_append_right _ (List.mem_append_right _ (List.mem_append_right _ (List.mem_append_left _ (List.mem_of_getElem? (i := 32) rfl)))))
theorem q193 : (.selects R_Str y_Str_length_8abf5 y_Str_length_8abf5 : Cond) ∈ TB := List.mem_append_right _ (List.mem_append_right _ (List.mem_append_right _ (List.mem_append_right _ (List.mem_append_left _ (List.mem_of_getElem? (i := 33) rfl)))))
theorem q194 : (.code y_Str_length_8abf5 prog_13_method_54_code 1 (some .int) : Cond) ∈ TB := List.mem_append_right _ (List.mem_append_right _ (List.mem_append_right _ (List.mem_append_right _ (List.mem_append_left _ (List.mem_of_getElem? (i := 34) rfl)))))
theorem q195 : (.methodLink R_Str 335 y_Str_coder_7d493 : Cond) ∈ TB := List.mem_append_right _ (List.mem_append_right _ (List.mem_append_right _ (List.mem_append_right _ (List.mem_append_left _ (List.mem_of_getElem? (i := 35) rfl)))))
theorem q196 : (.instanceMethod y_Str_coder_7d493 : Cond) ∈ TB := List.mem_append_right _ (List.mem_append_right _ (List.mem_append_right _ (List.mem_append_right _ (List.mem_append_left _ (List.mem_of_getElem? (i := 36) rfl)))))
theorem q197 : (.selects R_Str y_Str_coder_7d493 y_Str_coder_7d493 : Cond) ∈ TB := List.mem_append_right _ (List.mem_append_right _ (List.mem_append_right _ (List.mem_append_right _ (List.mem_append_left _ (List.mem_of_getElem? (i := 37) rfl)))))
theorem q198 : (.code y_Str_coder_7d493 prog_13_method_152_code 1 (some .byte) : Cond) ∈ TB := List.mem_append_right _ (List.mem_append_right _ (List.mem_append_right _ (List.mem_append_right _ (List.mem_append_left _ (List.mem_of_getElem? (i := 38) rfl)))))
theorem q199 : (.fieldLink R_Str 38 "java/lang/String" "COMPACT_STRINGS" "Z" : Cond) ∈ TB := List.mem_append_right _ (List.mem_append_right _ (List.mem_append_right _ (List.mem_append_right _ (List.mem_append_left _ (List.mem_of_getElem? (i := 39) rfl)))))
theorem q200 : (.methodLink R_Nm 72 y_Str_charAt_5068e : Cond) ∈ TB := List.mem_append_right _ (List.mem_append_right _ (List.mem_append_right _ (List.mem_append_right _ (List.mem_append_right _ (List.mem_append_left _ (List.mem_of_getElem? (i := 0) rfl))))))
theorem q201 : (.instanceMethod y_Str_charAt_5068e : Cond) ∈ TB := List.mem_append_right _ (List.mem_append_right _ (List.mem_append_right _ (List.mem_append_right _ (List.mem_append_right _ (List.mem_append_left _ (List.mem_of_getElem? (i := 1) rfl))))))
theorem q202 : (.selects R_Str y_Str_charAt_5068e y_Str_charAt_5068e : Cond) ∈ TB := List.mem_append_right _ (List.mem_append_right _ (List.mem_append_right _ (List.mem_append_right _ (List.mem_append_right _ (List.mem_append_left _ (List.mem_of_getElem? (i := 2) rfl))))))
theorem q203 : (.code y_Str_charAt_5068e prog_13_method_56_code 2 (some .char) : Cond) ∈ TB := List.mem_append_right _ (List.mem_append_right _ (List.mem_append_right _ (List.mem_append_right _ (List.mem_append_right _ (List.mem_append_left _ (List.mem_of_getElem? (i := 3) rfl))))))
theorem q204 : (.methodLink R_Str 492 y_Str_isLatin1_aae02 : Cond) ∈ TB := List.mem_append_right _ (List.mem_append_right _ (List.mem_append_right _ (List.mem_append_right _ (List.mem_append_right _ (List.mem_append_left _ (List.mem_of_getElem? (i := 4) rfl))))))
theorem q205 : (.instanceMethod y_Str_isLatin1_aae02 : Cond) ∈ TB := List.mem_append_right _ (List.mem_append_right _ (List.mem_append_right _ (List.mem_append_right _ (List.mem_append_right _ (List.mem_append_left _ (List.mem_of_getElem? (i := 5) rfl))))))
theorem q206 : (.selects R_Str y_Str_isLatin1_aae02 y_Str_isLatin1_aae02 : Cond) ∈ TB := List.mem_append_right _ (List.mem_append_right _ (List.mem_append_right _ (List.mem_append_right _ (List.mem_append_right _ (List.mem_append_left _ (List.mem_of_getElem? (i := 6) rfl))))))
theorem q207 : (.code y_Str_isLatin1_aae02 prog_13_method_154_code 1 (some .boolean) : Cond) ∈ TB := List.mem_append_right _ (List.mem_append_right _ (List.mem_append_right _ (List.mem_append_right _ (List.mem_append_right _ (List.mem_append_left _ (List.mem_of_getElem? (i := 7) rfl))))))
theorem q208 : (.methodLink R_Str 495 y_SLa_charAt_3b067 : Cond) ∈ TB := List.mem_append_right _ (List.mem_append_right _ (List.mem_append_right _ (List.mem_append_right _ (List.mem_append_right _ (List.mem_append_left _ (List.mem_of_getElem? (i := 8) rfl))))))
theorem q209 : (.static y_SLa_charAt_3b067 : Cond) ∈ TB := List.mem_append_right _ (List.mem_append_right _ (List.mem_append_right _ (List.mem_append_right _ (List.mem_append_right _ (List.mem_append_left _ (List.mem_of_getElem? (i := 9) rfl))))))
theorem q210 : (.code y_SLa_charAt_3b067 prog_14_method_2_code 2 (some .char) : Cond) ∈ TB := List.mem_append_right _ (List.mem_append_right _ (List.mem_append_right _ (List.mem_append_right _ (List.mem_append_right _ (List.mem_append_left _ (List.mem_of_getElem? (i := 10) rfl))))))
theorem q211 : (.methodLink R_SLa 9 y_Str_checkIndex_df160 : Cond) ∈ TB := List.mem_append_right _ (List.mem_append_right _ (List.mem_append_right _ (List.mem_append_right _ (List.mem_append_right _ (List.mem_append_left _ (List.mem_of_getElem? (i := 11) rfl))))))
theorem q212 : (.static y_Str_checkIndex_df160 : Cond) ∈ TB := List.mem_append_right _ (List.mem_append_right _ (List.mem_append_right _ (List.mem_append_right _ (List.mem_append_right _ (List.mem_append_left _ (List.mem_of_getElem? (i := 12) rfl))))))
theorem q213 : (.code y_Str_checkIndex_df160 prog_13_method_155_code 2 none : Cond) ∈ TB := List.mem_append_right _ (List.mem_append_right _ (List.mem_append_right _ (List.mem_append_right _ (List.mem_append_right _ (List.mem_append_left _ (List.mem_of_getElem? (i := 13) rfl))))))
theorem q214 : (.fieldLink R_Str 1053 "jdk/internal/util/Preconditions" "SIOOBE_FORMATTER" "Ljava/util/function/BiFunction;" : Cond) ∈ TB := List.mem_append_right _ (List.mem_append_right _ (List.mem_append_right _ (List.mem_append_right _ (List.mem_append_right _ (List.mem_append_left _ (List.mem_of_getElem? (i := 14) rfl))))))
theorem q215 : (.methodLink R_Str 1059 y_Pre_checkIndex_8e157 : Cond) ∈ TB := List.mem_append_right _ (List.mem_append_right _ (List.mem_append_right _ (List.mem_append_right _ (List.mem_append_right _ (List.mem_append_left _ (List.mem_of_getElem? (i := 15) rfl))))))
theorem q216 : (.static y_Pre_checkIndex_8e157 : Cond) ∈ TB := List.mem_append_right _ (List.mem_append_right _ (List.mem_append_right _ (List.mem_append_right _ (List.mem_append_right _ (List.mem_append_left _ (List.mem_of_getElem? (i := 16) rfl))))))
theorem q217 : (.code y_Pre_checkIndex_8e157 prog_16_method_11_code 3 (some .int) : Cond) ∈ TB := List.mem_append_right _ (List.mem_append_right _ (List.mem_append_right _ (List.mem_append_right _ (List.mem_append_right _ (List.mem_append_left _ (List.mem_of_getElem? (i := 17) rfl))))))
theorem q218 : (.methodLink R_Str 498 y_SUt_charAt_3b067 : Cond) ∈ TB := List.mem_append_right _ (List.mem_append_right _ (List.mem_append_right _ (List.mem_append_right _ (List.mem_append_right _ (List.mem_append_left _ (List.mem_of_getElem? (i := 18) rfl))))))
theorem q219 : (.static y_SUt_charAt_3b067 : Cond) ∈ TB := List.mem_append_right _ (List.mem_append_right _ (List.mem_append_right _ (List.mem_append_right _ (List.mem_append_right _ (List.mem_append_left _ (List.mem_of_getElem? (i := 19) rfl))))))
theorem q220 : (.code y_SUt_charAt_3b067 prog_15_method_83_code 2 (some .char) : Cond) ∈ TB := List.mem_append_right _ (List.mem_append_right _ (List.mem_append_right _ (List.mem_append_right _ (List.mem_append_right _ (List.mem_append_left _ (List.mem_of_getElem? (i := 20) rfl))))))
theorem q221 : (.methodLink R_SUt 67 y_SUt_checkIndex_2214a : Cond) ∈ TB := List.mem_append_right _ (List.mem_append_right _ (List.mem_append_right _ (List.mem_append_right _ (List.mem_append_right _ (List.mem_append_left _ (List.mem_of_getElem? (i := 21) rfl))))))
theorem q222 : (.static y_SUt_checkIndex_2214a : Cond) ∈ TB := List.mem_append_right _ (List.mem_append_right _ (List.mem_append_right _ (List.mem_append_right _ (List.mem_append_right _ (List.mem_append_left _ (List.mem_of_getElem? (i := 22) rfl))))))
theorem q223 : (.code y_SUt_checkIndex_2214a prog_15_method_91_code 2 none : Cond) ∈ TB := List.mem_append_right _ (List.mem_append_right _ (List.mem_append_right _ (List.mem_append_right _ (List.mem_append_right _ (List.mem_append_left _ (List.mem_of_getElem? (i := 23) rfl))))))
theorem q224 : (.methodLink R_SUt 48 y_SUt_length_9d52b : Cond) ∈ TB := List.mem_append_right _ (List.mem_append_right _ (List.mem_append_right _ (List.mem_append_right _ (List.mem_append_right _ (List.mem_append_left _ (List.mem_of_getElem? (i := 24) rfl))))))
theorem q225 : (.static y_SUt_length_9d52b : Cond) ∈ TB := List.mem_append_right _ (List.mem_append_right _ (List.mem_append_right _ (List.mem_append_right _ (List.mem_append_right _ (List.mem_append_left _ (List.mem_of_getElem? (i := 25) rfl))))))
theorem q226 : (.code y_SUt_length_9d52b prog_15_method_6_code 1 (some .int) : Cond) ∈ TB := List.mem_append_right _ (List.mem_append_right _ (List.mem_append_right _ (List.mem_append_right _ (List.mem_append_right _ (List.mem_append_left _ (List.mem_of_getElem? (i := 26) rfl))))))
theorem q227 : (.methodLink R_SUt 414 y_Str_checkIndex_df160 : Cond) ∈ TB := List.mem_append_right _ (List.mem_append_right _ (List.mem_append_right _ (List.mem_append_right _ (List.mem_append_right _ (List.mem_append_left _ (List.mem_of_getElem? (i := 27) rfl))))))
theorem q228 : (.methodLink R_SUt 71 y_SUt_getChar_3b067 : Cond) ∈ TB := List.mem_append_right _ (List.mem_append_right _ (List.mem_append_right _ (List.mem_append_right _ (List.mem_append_right _ (List.mem_append_left _ (List.mem_of_getElem? (i := 28) rfl))))))
theorem q229 : (.static y_SUt_getChar_3b067 : Cond) ∈ TB := List.mem_append_right _ (List.mem_append_right _ (List.mem_append_right _ (List.mem_append_right _ (List.mem_append_right _ (List.mem_append_left _ (List.mem_of_getElem? (i := 29) rfl))))))
theorem q230 : (.code y_SUt_getChar_3b067 prog_15_method_5_code 2 (some .char) : Cond) ∈ TB := List.mem_append_right _ (List.mem_append_right _ (List.mem_append_right _ (List.mem_append_right _ (List.mem_append_right _ (List.mem_append_left _ (List.mem_of_getElem? (i := 30) rfl))))))
theorem q231 : (.fieldLink R_SUt 44 "java/lang/StringUTF16" "$assertionsDisabled" "Z" : Cond) ∈ TB := List.mem_append_right _ (List.mem_append_right _ (List.mem_append_right _ (List.mem_append_right _ (List.mem_append_right _ (List.mem_append_left _ (List.mem_of_getElem? (i := 31) rfl))))))
theorem q232 : (.fieldLink R_SUt 59 "java/lang/StringUTF16" "HI_BYTE_SHIFT" "I" : Cond) ∈ TB := List.mem_append_right _ (List.mem_append_right _ (List.mem_append_right _ (List.mem_append_right _ (List.mem_append_right _ (List.mem_append_left _ (List.mem_of_getElem? (i := 32) rfl))))))
theorem q233 : (.fieldLink R_SUt 63 "java/lang/StringUTF16" "LO_BYTE_SHIFT" "I" : Cond) ∈ TB := List.mem_append_right _ (List.mem_append_right _ (List.mem_append_right _ (List.mem_append_right _ (List.mem_append_right _ (List.mem_append_left _ (List.mem_of_getElem? (i := 33) rfl))))))
theorem q234 : (.methodLink R_Nm 76 y_Reader_append : Cond) ∈ TB := List.mem_append_right _ (List.mem_append_right _ (List.mem_append_right _ (List.mem_append_right _ (List.mem_append_right _ (List.mem_append_left _ (List.mem_of_getElem? (i := 34) rfl))))))
theorem q235 : (.instanceMethod y_Reader_append : Cond) ∈ TB := List.mem_append_right _ (List.mem_append_right _ (List.mem_append_right _ (List.mem_append_right _ (List.mem_append_right _ (List.mem_append_left _ (List.mem_of_getElem? (i := 35) rfl))))))
theorem q236 : (.selects R_Reader y_Reader_append y_Reader_append : Cond) ∈ TB := List.mem_append_right _ (List.mem_append_right _ (List.mem_append_right _ (List.mem_append_right _ (List.mem_append_right _ (List.mem_append_left _ (List.mem_of_getElem? (i := 36) rfl))))))
theorem q237 : (.code y_Reader_append prog_7_method_2_code 2 none : Cond) ∈ TB := List.mem_append_right _ (List.mem_append_right _ (List.mem_append_right _ (List.mem_append_right _ (List.mem_append_right _ (List.mem_append_left _ (List.mem_of_getElem? (i := 37) rfl))))))
theorem q238 : (.static y_Nm_put : Cond) ∈ TB := List.mem_append_right _ (List.mem_append_right _ (List.mem_append_right _ (List.mem_append_right _ (List.mem_append_right _ (List.mem_append_left _ (List.mem_of_getElem? (i := 38) rfl))))))
theorem q239 : (.code y_Nm_put prog_1_method_45_code 3 none : Cond) ∈ TB := List.mem_append_right _ (List.mem_append_right _ (List.mem_append_right _ (List.mem_append_right _ (List.mem_append_right _ (List.mem_append_left _ (List.mem_of_getElem? (i := 39) rfl))))))
theorem q240 : (.methodLink R_Nm 79 y_Reader_readInto : Cond) ∈ TB := List.mem_append_right _ (List.mem_append_right _ (List.mem_append_right _ (List.mem_append_right _ (List.mem_append_right _ (List.mem_append_right _ (List.mem_append_left _ (List.mem_of_getElem? (i := 0) rfl)))))))
theorem q241 : (.instanceMethod y_Reader_readInto : Cond) ∈ TB := List.mem_append_right _ (List.mem_append_right _ (List.mem_append_right _ (List.mem_append_right _ (List.mem_append_right _ (List.mem_append_right _ (List.mem_append_left _ (List.mem_of_getElem? (i := 1) rfl)))))))
theorem q242 : (.selects R_Reader y_Reader_readInto y_Reader_readInto : Cond) ∈ TB := List.mem_append_right _ (List.mem_append_right _ (List.mem_append_right _ (List.mem_append_right _ (List.mem_append_right _ (List.mem_append_right _ (List.mem_append_left _ (List.mem_of_getElem? (i := 2) rfl)))))))
theorem q243 : (.code y_Reader_readInto prog_7_method_3_code 4 (some .int) : Cond) ∈ TB := List.mem_append_right _ (List.mem_append_right _ (List.mem_append_right _ (List.mem_append_right _ (List.mem_append_right _ (List.mem_append_right _ (List.mem_append_left _ (List.mem_of_getElem? (i := 3) rfl)))))))
theorem q244 : (.methodLink R_Reader 23 y_Menu_clear : Cond) ∈ TB := List.mem_append_right _ (List.mem_append_right _ (List.mem_append_right _ (List.mem_append_right _ (List.mem_append_right _ (List.mem_append_right _ (List.mem_append_left _ (List.mem_of_getElem? (i := 4) rfl)))))))
theorem q245 : (.instanceMethod y_Menu_clear : Cond) ∈ TB := List.mem_append_right _ (List.mem_append_right _ (List.mem_append_right _ (List.mem_append_right _ (List.mem_append_right _ (List.mem_append_right _ (List.mem_append_left _ (List.mem_of_getElem? (i := 5) rfl)))))))
theorem q246 : (.selects R_Menu y_Menu_clear y_Menu_clear : Cond) ∈ TB := List.mem_append_right _ (List.mem_append_right _ (List.mem_append_right _ (List.mem_append_right _ (List.mem_append_right _ (List.mem_append_right _ (List.mem_append_left _ (List.mem_of_getElem? (i := 6) rfl)))))))
theorem q247 : (.code y_Menu_clear prog_2_method_2_code 2 none : Cond) ∈ TB := List.mem_append_right _ (List.mem_append_right _ (List.mem_append_right _ (List.mem_append_right _ (List.mem_append_right _ (List.mem_append_right _ (List.mem_append_left _ (List.mem_of_getElem? (i := 7) rfl)))))))
theorem q248 : (.methodLink R_Reader 35 y_Reader_readItem : Cond) ∈ TB := List.mem_append_right _ (List.mem_append_right _ (List.mem_append_right _ (List.mem_append_right _ (List.mem_append_right _ (List.mem_append_right _ (List.mem_append_left _ (List.mem_of_getElem? (i := 8) rfl)))))))
theorem q249 : (.instanceMethod y_Reader_readItem : Cond) ∈ TB := List.mem_append_right _ (List.mem_append_right _ (List.mem_append_right _ (List.mem_append_right _ (List.mem_append_right _ (List.mem_append_right _ (List.mem_append_left _ (List.mem_of_getElem? (i := 9) rfl)))))))
theorem q250 : (.code y_Reader_readItem prog_7_method_4_code 3 (some .boolean) : Cond) ∈ TB := List.mem_append_right _ (List.mem_append_right _ (List.mem_append_right _ (List.mem_append_right _ (List.mem_append_right _ (List.mem_append_right _ (List.mem_append_left _ (List.mem_of_getElem? (i := 10) rfl)))))))
theorem q251 : (.methodLink R_Reader 39 y_Reader_peek : Cond) ∈ TB := List.mem_append_right _ (List.mem_append_right _ (List.mem_append_right _ (List.mem_append_right _ (List.mem_append_right _ (List.mem_append_right _ (List.mem_append_left _ (List.mem_of_getElem? (i := 11) rfl)))))))
theorem q252 : (.instanceMethod y_Reader_peek : Cond) ∈ TB := List.mem_append_right _ (List.mem_append_right _ (List.mem_append_right _ (List.mem_append_right _ (List.mem_append_right _ (List.mem_append_right _ (List.mem_append_left _ (List.mem_of_getElem? (i := 12) rfl)))))))
theorem q253 : (.code y_Reader_peek prog_7_method_14_code 1 (some .int) : Cond) ∈ TB := List.mem_append_right _ (List.mem_append_right _ (List.mem_append_right _ (List.mem_append_right _ (List.mem_append_right _ (List.mem_append_right _ (List.mem_append_left _ (List.mem_of_getElem? (i := 13) rfl)))))))
theorem q254 : (.methodLink R_Reader 43 y_Reader_readDishes : Cond) ∈ TB := List.mem_append_right _ (List.mem_append_right _ (List.mem_append_right _ (List.mem_append_right _ (List.mem_append_right _ (List.mem_append_right _ (List.mem_append_left _ (List.mem_of_getElem? (i := 14) rfl)))))))
theorem q255 : (.instanceMethod y_Reader_readDishes : Cond) ∈ TB := List.mem_append_right _ (List.mem_append_right _ (List.mem_append_right _ (List.mem_append_right _ (List.mem_append_right _ (List.mem_append_right _ (List.mem_append_left _ (List.mem_of_getElem? (i := 15) rfl)))))))
theorem q256 : (.code y_Reader_readDishes prog_7_method_5_code 2 (some .boolean) : Cond) ∈ TB := List.mem_append_right _ (List.mem_append_right _ (List.mem_append_right _ (List.mem_append_right _ (List.mem_append_right _ (List.mem_append_right _ (List.mem_append_left _ (List.mem_of_getElem? (i := 16) rfl)))))))
theorem q257 : (.methodLink R_Reader 61 y_Reader_number : Cond) ∈ TB := List.mem_append_right _ (List.mem_append_right _ (List.mem_append_right _ (List.mem_append_right _ (List.mem_append_right _ (List.mem_append_right _ (List.mem_append_left _ (List.mem_of_getElem? (i := 17) rfl)))))))
theorem q258 : (.instanceMethod y_Reader_number : Cond) ∈ TB := List.mem_append_right _ (List.mem_append_right _ (List.mem_append_right _ (List.mem_append_right _ (List.mem_append_right _ (List.mem_append_right _ (List.mem_append_left _ (List.mem_of_getElem? (i := 18) rfl)))))))
theorem q259 : (.code y_Reader_number prog_7_method_11_code 3 (some .int) : Cond) ∈ TB := List.mem_append_right _ (List.mem_append_right _ (List.mem_append_right _ (List.mem_append_right _ (List.mem_append_right _ (List.mem_append_right _ (List.mem_append_left _ (List.mem_of_getElem? (i := 19) rfl)))))))
theorem q260 : (.methodLink R_Reader 78 y_Reader_figure : Cond) ∈ TB := List.mem_append_right _ (List.mem_append_right _ (List.mem_append_right _ (List.mem_append_right _ (List.mem_append_right _ (List.mem_append_right _ (List.mem_append_left _ (List.mem_of_getElem? (i := 20) rfl)))))))
theorem q261 : (.instanceMethod y_Reader_figure : Cond) ∈ TB := List.mem_append_right _ (List.mem_append_right _ (List.mem_append_right _ (List.mem_append_right _ (List.mem_append_right _ (List.mem_append_right _ (List.mem_append_left _ (List.mem_of_getElem? (i := 21) rfl)))))))
theorem q262 : (.code y_Reader_figure prog_7_method_12_code 2 (some .int) : Cond) ∈ TB := List.mem_append_right _ (List.mem_append_right _ (List.mem_append_right _ (List.mem_append_right _ (List.mem_append_right _ (List.mem_append_right _ (List.mem_append_left _ (List.mem_of_getElem? (i := 22) rfl)))))))
theorem q263 : (.static y_Nm_isOutside : Cond) ∈ TB := List.mem_append_right _ (List.mem_append_right _ (List.mem_append_right _ (List.mem_append_right _ (List.mem_append_right _ (List.mem_append_right _ (List.mem_append_left _ (List.mem_of_getElem? (i := 23) rfl)))))))
theorem q264 : (.code y_Nm_isOutside prog_1_method_41_code 3 (some .boolean) : Cond) ∈ TB := List.mem_append_right _ (List.mem_append_right _ (List.mem_append_right _ (List.mem_append_right _ (List.mem_append_right _ (List.mem_append_right _ (List.mem_append_left _ (List.mem_of_getElem? (i := 24) rfl)))))))
theorem q265 : (.methodLink R_Reader 71 y_Reader_skip : Cond) ∈ TB := List.mem_append_right _ (List.mem_append_right _ (List.mem_append_right _ (List.mem_append_right _ (List.mem_append_right _ (List.mem_append_right _ (List.mem_append_left _ (List.mem_of_getElem? (i := 25) rfl)))))))
theorem q266 : (.instanceMethod y_Reader_skip : Cond) ∈ TB := List.mem_append_right _ (List.mem_append_right _ (List.mem_append_right _ (List.mem_append_right _ (List.mem_append_right _ (List.mem_append_right _ (List.mem_append_left _ (List.mem_of_getElem? (i := 26) rfl)))))))
theorem q267 : (.code y_Reader_skip prog_7_method_13_code 2 (some .boolean) : Cond) ∈ TB := List.mem_append_right _ (List.mem_append_right _ (List.mem_append_right _ (List.mem_append_right _ (List.mem_append_right _ (List.mem_append_right _ (List.mem_append_left _ (List.mem_of_getElem? (i := 27) rfl)))))))
theorem q268 : (.methodLink R_Reader 46 y_Reader_readGuest : Cond) ∈ TB := List.mem_append_right _ (List.mem_append_right _ (List.mem_append_right _ (List.mem_append_right _ (List.mem_append_right _ (List.mem_append_right _ (List.mem_append_left _ (List.mem_of_getElem? (i := 28) rfl)))))))
theorem q269 : (.instanceMethod y_Reader_readGuest : Cond) ∈ TB := List.mem_append_right _ (List.mem_append_right _ (List.mem_append_right _ (List.mem_append_right _ (List.mem_append_right _ (List.mem_append_right _ (List.mem_append_left _ (List.mem_of_getElem? (i := 29) rfl)))))))
theorem q270 : (.code y_Reader_readGuest prog_7_method_6_code 6 (some .boolean) : Cond) ∈ TB := List.mem_append_right _ (List.mem_append_right _ (List.mem_append_right _ (List.mem_append_right _ (List.mem_append_right _ (List.mem_append_right _ (List.mem_append_left _ (List.mem_of_getElem? (i := 30) rfl)))))))
theorem q271 : (.methodLink R_Reader 49 y_Reader_readMinutes : Cond) ∈ TB := List.mem_append_right _ (List.mem_append_right _ (List.mem_append_right _ (List.mem_append_right _ (List.mem_append_right _ (List.mem_append_right _ (List.mem_append_left _ (List.mem_of_getElem? (i := 31) rfl)))))))
theorem q272 : (.instanceMethod y_Reader_readMinutes : Cond) ∈ TB := List.mem_append_right _ (List.mem_append_right _ (List.mem_append_right _ (List.mem_append_right _ (List.mem_append_right _ (List.mem_append_right _ (List.mem_append_left _ (List.mem_of_getElem? (i := 32) rfl)))))))
theorem q273 : (.code y_Reader_readMinutes prog_7_method_7_code 4 (some .boolean) : Cond) ∈ TB := List.mem_append_right _ (List.mem_append_right _ (List.mem_append_right _ (List.mem_append_right _ (List.mem_append_right _ (List.mem_append_right _ (List.mem_append_left _ (List.mem_of_getElem? (i := 33) rfl)))))))
theorem q274 : (.methodLink R_Reader 87 y_Menu_hasDish : Cond) ∈ TB := List.mem_append_right _ (List.mem_append_right _ (List.mem_append_right _ (List.mem_append_right _ (List.mem_append_right _ (List.mem_append_right _ (List.mem_append_left _ (List.mem_of_getElem? (i := 34) rfl)))))))
theorem q275 : (.instanceMethod y_Menu_hasDish : Cond) ∈ TB := List.mem_append_right _ (List.mem_append_right _ (List.mem_append_right _ (List.mem_append_right _ (List.mem_append_right _ (List.mem_append_right _ (List.mem_append_left _ (List.mem_of_getElem? (i := 35) rfl)))))))
theorem q276 : (.selects R_Menu y_Menu_hasDish y_Menu_hasDish : Cond) ∈ TB := List.mem_append_right _ (List.mem_append_right _ (List.mem_append_right _ (List.mem_append_right _ (List.mem_append_right _ (List.mem_append_right _ (List.mem_append_left _ (List.mem_of_getElem? (i := 36) rfl)))))))
theorem q277 : (.code y_Menu_hasDish prog_2_method_4_code 2 (some .boolean) : Cond) ∈ TB := List.mem_append_right _ (List.mem_append_right _ (List.mem_append_right _ (List.mem_append_right _ (List.mem_append_right _ (List.mem_append_right _ (List.mem_append_left _ (List.mem_of_getElem? (i := 37) rfl)))))))
theorem q278 : (.methodLink R_Reader 52 y_Reader_readVetoes : Cond) ∈ TB := List.mem_append_right _ (List.mem_append_right _ (List.mem_append_right _ (List.mem_append_right _ (List.mem_append_right _ (List.mem_append_right _ (List.mem_append_left _ (List.mem_of_getElem? (i := 38) rfl)))))))
theorem q279 : (.instanceMethod y_Reader_readVetoes : Cond) ∈ TB := List.mem_append_right _ (List.mem_append_right _ (List.mem_append_right _ (List.mem_append_right _ (List.mem_append_right _ (List.mem_append_right _ (List.mem_append_left _ (List.mem_of_getElem? (i := 39) rfl)))))))
theorem q280 : (.code y_Reader_readVetoes prog_7_method_8_code 2 (some .boolean) : Cond) ∈ TB := List.mem_append_right _ (List.mem_append_right _ (List.mem_append_right _ (List.mem_append_right _ (List.mem_append_right _ (List.mem_append_right _ (List.mem_append_right _ (List.mem_append_left _ (List.mem_of_getElem? (i := 0) rfl))))))))
theorem q281 : (.methodLink R_Reader 55 y_Reader_readShuts : Cond) ∈ TB := List.mem_append_right _ (List.mem_append_right _ (List.mem_append_right _ (List.mem_append_right _ (List.mem_append_right _ (List.mem_append_right _ (List.mem_append_right _ (List.mem_append_left _ (List.mem_of_getElem? (i := 1) rfl))))))))
theorem q282 : (.instanceMethod y_Reader_readShuts : Cond) ∈ TB := List.mem_append_right _ (List.mem_append_right _ (List.mem_append_right _ (List.mem_append_right _ (List.mem_append_right _ (List.mem_append_right _ (List.mem_append_right _ (List.mem_append_left _ (List.mem_of_getElem? (i := 2) rfl))))))))
theorem q283 : (.code y_Reader_readShuts prog_7_method_9_code 2 (some .boolean) : Cond) ∈ TB := List.mem_append_right _ (List.mem_append_right _ (List.mem_append_right _ (List.mem_append_right _ (List.mem_append_right _ (List.mem_append_right _ (List.mem_append_right _ (List.mem_append_left _ (List.mem_of_getElem? (i := 3) rfl))))))))
theorem q284 : (.methodLink R_Reader 58 y_Reader_readHunger : Cond) ∈ TB := List.mem_append_right _ (List.mem_append_right _ (List.mem_append_right _ (List.mem_append_right _ (List.mem_append_right _ (List.mem_append_right _ (List.mem_append_right _ (List.mem_append_left _ (List.mem_of_getElem? (i := 4) rfl))))))))
theorem q285 : (.instanceMethod y_Reader_readHunger : Cond) ∈ TB := List.mem_append_right _ (List.mem_append_right _ (List.mem_append_right _ (List.mem_append_right _ (List.mem_append_right _ (List.mem_append_right _ (List.mem_append_right _ (List.mem_append_left _ (List.mem_of_getElem? (i := 5) rfl))))))))
theorem q286 : (.code y_Reader_readHunger prog_7_method_10_code 2 (some .boolean) : Cond) ∈ TB := List.mem_append_right _ (List.mem_append_right _ (List.mem_append_right _ (List.mem_append_right _ (List.mem_append_right _ (List.mem_append_right _ (List.mem_append_right _ (List.mem_append_left _ (List.mem_of_getElem? (i := 6) rfl))))))))
theorem q287 : (.fieldLink R_Nm 10 "NoneMinds" "text" "LNoneMinds$Reader;" : Cond) ∈ TB := List.mem_append_right _ (List.mem_append_right _ (List.mem_append_right _ (List.mem_append_right _ (List.mem_append_right _ (List.mem_append_right _ (List.mem_append_right _ (List.mem_append_left _ (List.mem_of_getElem? (i := 7) rfl))))))))
theorem q288 : (.fieldLink R_Nm 19 "NoneMinds" "table" "LNoneMinds$Table;" : Cond) ∈ TB := List.mem_append_right _ (List.mem_append_right _ (List.mem_append_right _ (List.mem_append_right _ (List.mem_append_right _ (List.mem_append_right _ (List.mem_append_right _ (List.mem_append_left _ (List.mem_of_getElem? (i := 8) rfl))))))))
theorem q289 : (.fieldLink R_Nm 23 "NoneMinds" "pretended" "LNoneMinds$Table;" : Cond) ∈ TB := List.mem_append_right _ (List.mem_append_right _ (List.mem_append_right _ (List.mem_append_right _ (List.mem_append_right _ (List.mem_append_right _ (List.mem_append_right _ (List.mem_append_left _ (List.mem_of_getElem? (i := 9) rfl))))))))
theorem q290 : (.fieldLink R_Nm 60 "NoneMinds" "moment" "LNoneMinds$Moment;" : Cond) ∈ TB := List.mem_append_right _ (List.mem_append_right _ (List.mem_append_right _ (List.mem_append_right _ (List.mem_append_right _ (List.mem_append_right _ (List.mem_append_right _ (List.mem_append_left _ (List.mem_of_getElem? (i := 10) rfl))))))))
theorem q291 : (.fieldLink R_Nm 31 "NoneMinds" "past" "LNoneMinds$Pile;" : Cond) ∈ TB := List.mem_append_right _ (List.mem_append_right _ (List.mem_append_right _ (List.mem_append_right _ (List.mem_append_right _ (List.mem_append_right _ (List.mem_append_right _ (List.mem_append_left _ (List.mem_of_getElem? (i := 11) rfl))))))))
theorem q292 : (.fieldLink R_Nm 35 "NoneMinds" "kept" "LNoneMinds$Pile;" : Cond) ∈ TB := List.mem_append_right _ (List.mem_append_right _ (List.mem_append_right _ (List.mem_append_right _ (List.mem_append_right _ (List.mem_append_right _ (List.mem_append_right _ (List.mem_append_left _ (List.mem_of_getElem? (i := 12) rfl))))))))
theorem q293 : (.fieldLink R_Nm 41 "NoneMinds" "notes" "LNoneMinds$Notes;" : Cond) ∈ TB := List.mem_append_right _ (List.mem_append_right _ (List.mem_append_right _ (List.mem_append_right _ (List.mem_append_right _ (List.mem_append_right _ (List.mem_append_right _ (List.mem_append_left _ (List.mem_of_getElem? (i := 13) rfl))))))))
theorem q294 : (.fieldLink R_Nm 48 "NoneMinds" "laid" "LNoneMinds$Menu;" : Cond) ∈ TB := List.mem_append_right _ (List.mem_append_right _ (List.mem_append_right _ (List.mem_append_right _ (List.mem_append_right _ (List.mem_append_right _ (List.mem_append_right _ (List.mem_append_left _ (List.mem_of_getElem? (i := 14) rfl))))))))
theorem q295 : (.fieldLink R_Nm 52 "NoneMinds" "draft" "LNoneMinds$Menu;" : Cond) ∈ TB := List.mem_append_right _ (List.mem_append_right _ (List.mem_append_right _ (List.mem_append_right _ (List.mem_append_right _ (List.mem_append_right _ (List.mem_append_right _ (List.mem_append_left _ (List.mem_of_getElem? (i := 15) rfl))))))))
theorem q296 : (.laysFinal R_Nm "NoneMinds" "text" "LNoneMinds$Reader;" : Cond) ∈ TB := List.mem_append_right _ (List.mem_append_right _ (List.mem_append_right _ (List.mem_append_right _ (List.mem_append_right _ (List.mem_append_right _ (List.mem_append_right _ (List.mem_append_left _ (List.mem_of_getElem? (i := 16) rfl))))))))
theorem q297 : (.laysFinal R_Nm "NoneMinds" "table" "LNoneMinds$Table;" : Cond) ∈ TB := List.mem_append_right _ (List.mem_append_right _ (List.mem_append_right _ (List.mem_append_right _ (List.mem_append_right _ (List.mem_append_right _ (List.mem_append_right _ (List.mem_append_left _ (List.mem_of_getElem? (i := 17) rfl))))))))
theorem q298 : (.laysFinal R_Nm "NoneMinds" "pretended" "LNoneMinds$Table;" : Cond) ∈ TB := List.mem_append_right _ (List.mem_append_right _ (List.mem_append_right _ (List.mem_append_right _ (List.mem_append_right _ (List.mem_append_right _ (List.mem_append_right _ (List.mem_append_left _ (List.mem_of_getElem? (i := 18) rfl))))))))
theorem q299 : (.laysFinal R_Nm "NoneMinds" "moment" "LNoneMinds$Moment;" : Cond) ∈ TB := List.mem_append_right _ (List.mem_append_right _ (List.mem_append_right _ (List.mem_append_right _ (List.mem_append_right _ (List.mem_append_right _ (List.mem_append_right _ (List.mem_append_left _ (List.mem_of_getElem? (i := 19) rfl))))))))
theorem q300 : (.laysFinal R_Nm "NoneMinds" "past" "LNoneMinds$Pile;" : Cond) ∈ TB := List.mem_append_right _ (List.mem_append_right _ (List.mem_append_right _ (List.mem_append_right _ (List.mem_append_right _ (List.mem_append_right _ (List.mem_append_right _ (List.mem_append_left _ (List.mem_of_getElem? (i := 20) rfl))))))))
theorem q301 : (.laysFinal R_Nm "NoneMinds" "kept" "LNoneMinds$Pile;" : Cond) ∈ TB := List.mem_append_right _ (List.mem_append_right _ (List.mem_append_right _ (List.mem_append_right _ (List.mem_append_right _ (List.mem_append_right _ (List.mem_append_right _ (List.mem_append_left _ (List.mem_of_getElem? (i := 21) rfl))))))))
theorem q302 : (.laysFinal R_Nm "NoneMinds" "notes" "LNoneMinds$Notes;" : Cond) ∈ TB := List.mem_append_right _ (List.mem_append_right _ (List.mem_append_right _ (List.mem_append_right _ (List.mem_append_right _ (List.mem_append_right _ (List.mem_append_right _ (List.mem_append_left _ (List.mem_of_getElem? (i := 22) rfl))))))))
theorem q303 : (.lays R_Nm "NoneMinds" "laid" "LNoneMinds$Menu;" : Cond) ∈ TB := List.mem_append_right _ (List.mem_append_right _ (List.mem_append_right _ (List.mem_append_right _ (List.mem_append_right _ (List.mem_append_right _ (List.mem_append_right _ (List.mem_append_left _ (List.mem_of_getElem? (i := 23) rfl))))))))
theorem q304 : (.lays R_Nm "NoneMinds" "draft" "LNoneMinds$Menu;" : Cond) ∈ TB := List.mem_append_right _ (List.mem_append_right _ (List.mem_append_right _ (List.mem_append_right _ (List.mem_append_right _ (List.mem_append_right _ (List.mem_append_right _ (List.mem_append_left _ (List.mem_of_getElem? (i := 24) rfl))))))))
theorem q305 : (.arrayClass .byte : Cond) ∈ TB := List.mem_append_right _ (List.mem_append_right _ (List.mem_append_right _ (List.mem_append_right _ (List.mem_append_right _ (List.mem_append_right _ (List.mem_append_right _ (List.mem_append_left _ (List.mem_of_getElem? (i := 25) rfl))))))))
theorem q306 : (.methodLink R_law 13 y_Nm_write : Cond) ∈ TB := List.mem_append_right _ (List.mem_append_right _ (List.mem_append_right _ (List.mem_append_right _ (List.mem_append_right _ (List.mem_append_right _ (List.mem_append_right _ (List.mem_append_left _ (List.mem_of_getElem? (i := 26) rfl))))))))
theorem q307 : (.instanceMethod y_Nm_write : Cond) ∈ TB := List.mem_append_right _ (List.mem_append_right _ (List.mem_append_right _ (List.mem_append_right _ (List.mem_append_right _ (List.mem_append_right _ (List.mem_append_right _ (List.mem_append_left _ (List.mem_of_getElem? (i := 27) rfl))))))))
theorem q308 : (.selects R_Nm y_Nm_write y_Nm_write : Cond) ∈ TB := List.mem_append_right _ (List.mem_append_right _ (List.mem_append_right _ (List.mem_append_right _ (List.mem_append_right _ (List.mem_append_right _ (List.mem_append_right _ (List.mem_append_left _ (List.mem_of_getElem? (i := 28) rfl))))))))
theorem q309 : (.code y_Nm_write prog_1_method_2_code 2 (some .int) : Cond) ∈ TB := List.mem_append_right _ (List.mem_append_right _ (List.mem_append_right _ (List.mem_append_right _ (List.mem_append_right _ (List.mem_append_right _ (List.mem_append_right _ (List.mem_append_left _ (List.mem_of_getElem? (i := 29) rfl))))))))
theorem q310 : (.methodLink R_Nm 86 y_Nm_isOutside : Cond) ∈ TB := List.mem_append_right _ (List.mem_append_right _ (List.mem_append_right _ (List.mem_append_right _ (List.mem_append_right _ (List.mem_append_right _ (List.mem_append_right _ (List.mem_append_left _ (List.mem_of_getElem? (i := 30) rfl))))))))
theorem q311 : (.methodLink R_law 18 y_Nm_wipe : Cond) ∈ TB := List.mem_append_right _ (List.mem_append_right _ (List.mem_append_right _ (List.mem_append_right _ (List.mem_append_right _ (List.mem_append_right _ (List.mem_append_right _ (List.mem_append_left _ (List.mem_of_getElem? (i := 31) rfl))))))))
theorem q312 : (.instanceMethod y_Nm_wipe : Cond) ∈ TB := List.mem_append_right _ (List.mem_append_right _ (List.mem_append_right _ (List.mem_append_right _ (List.mem_append_right _ (List.mem_append_right _ (List.mem_append_right _ (List.mem_append_left _ (List.mem_of_getElem? (i := 32) rfl))))))))
theorem q313 : (.selects R_Nm y_Nm_wipe y_Nm_wipe : Cond) ∈ TB := List.mem_append_right _ (List.mem_append_right _ (List.mem_append_right _ (List.mem_append_right _ (List.mem_append_right _ (List.mem_append_right _ (List.mem_append_right _ (List.mem_append_left _ (List.mem_of_getElem? (i := 33) rfl))))))))
theorem q314 : (.code y_Nm_wipe prog_1_method_3_code 2 (some .int) : Cond) ∈ TB := List.mem_append_right _ (List.mem_append_right _ (List.mem_append_right _ (List.mem_append_right _ (List.mem_append_right _ (List.mem_append_right _ (List.mem_append_right _ (List.mem_append_left _ (List.mem_of_getElem? (i := 34) rfl))))))))
theorem q315 : (.methodLink R_law 23 y_Nm_fault : Cond) ∈ TB := List.mem_append_right _ (List.mem_append_right _ (List.mem_append_right _ (List.mem_append_right _ (List.mem_append_right _ (List.mem_append_right _ (List.mem_append_right _ (List.mem_append_left _ (List.mem_of_getElem? (i := 35) rfl))))))))
theorem q316 : (.instanceMethod y_Nm_fault : Cond) ∈ TB := List.mem_append_right _ (List.mem_append_right _ (List.mem_append_right _ (List.mem_append_right _ (List.mem_append_right _ (List.mem_append_right _ (List.mem_append_right _ (List.mem_append_left _ (List.mem_of_getElem? (i := 36) rfl))))))))
theorem q317 : (.selects R_Nm y_Nm_fault y_Nm_fault : Cond) ∈ TB := List.mem_append_right _ (List.mem_append_right _ (List.mem_append_right _ (List.mem_append_right _ (List.mem_append_right _ (List.mem_append_right _ (List.mem_append_right _ (List.mem_append_left _ (List.mem_of_getElem? (i := 37) rfl))))))))
theorem q318 : (.code y_Nm_fault prog_1_method_4_code 1 (some .int) : Cond) ∈ TB := List.mem_append_right _ (List.mem_append_right _ (List.mem_append_right _ (List.mem_append_right _ (List.mem_append_right _ (List.mem_append_right _ (List.mem_append_right _ (List.mem_append_left _ (List.mem_of_getElem? (i := 38) rfl))))))))
theorem q319 : (.methodLink R_law 27 y_Nm_lay : Cond) ∈ TB := List.mem_append_right _ (List.mem_append_right _ (List.mem_append_right _ (List.mem_append_right _ (List.mem_append_right _ (List.mem_append_right _ (List.mem_append_right _ (List.mem_append_left _ (List.mem_of_getElem? (i := 39) rfl))))))))
theorem q320 : (.instanceMethod y_Nm_lay : Cond) ∈ TB := List.mem_append_right _ (List.mem_append_right _ (List.mem_append_right _ (List.mem_append_right _ (List.mem_append_right _ (List.mem_append_right _ (List.mem_append_right _ (List.mem_append_right _ (List.mem_append_left _ (List.mem_of_getElem? (i := 0) rfl)))))))))
theorem q321 : (.selects R_Nm y_Nm_lay y_Nm_lay : Cond) ∈ TB := List.mem_append_right _ (List.mem_append_right _ (List.mem_append_right _ (List.mem_append_right _ (List.mem_append_right _ (List.mem_append_right _ (List.mem_append_right _ (List.mem_append_right _ (List.mem_append_left _ (List.mem_of_getElem? (i := 1) rfl)))))))))
theorem q322 : (.code y_Nm_lay prog_1_method_5_code 2 (some .int) : Cond) ∈ TB := List.mem_append_right _ (List.mem_append_right _ (List.mem_append_right _ (List.mem_append_right _ (List.mem_append_right _ (List.mem_append_right _ (List.mem_append_right _ (List.mem_append_right _ (List.mem_append_left _ (List.mem_of_getElem? (i := 2) rfl)))))))))
theorem q323 : (.methodLink R_Nm 93 y_Table_clear : Cond) ∈ TB := List.mem_append_right _ (List.mem_append_right _ (List.mem_append_right _ (List.mem_append_right _ (List.mem_append_right _ (List.mem_append_right _ (List.mem_append_right _ (List.mem_append_right _ (List.mem_append_left _ (List.mem_of_getElem? (i := 3) rfl)))))))))
theorem q324 : (.instanceMethod y_Table_clear : Cond) ∈ TB := List.mem_append_right _ (List.mem_append_right _ (List.mem_append_right _ (List.mem_append_right _ (List.mem_append_right _ (List.mem_append_right _ (List.mem_append_right _ (List.mem_append_right _ (List.mem_append_left _ (List.mem_of_getElem? (i := 4) rfl)))))))))
theorem q325 : (.selects R_Table y_Table_clear y_Table_clear : Cond) ∈ TB := List.mem_append_right _ (List.mem_append_right _ (List.mem_append_right _ (List.mem_append_right _ (List.mem_append_right _ (List.mem_append_right _ (List.mem_append_right _ (List.mem_append_right _ (List.mem_append_left _ (List.mem_of_getElem? (i := 5) rfl)))))))))
theorem q326 : (.code y_Table_clear prog_8_method_2_code 1 none : Cond) ∈ TB := List.mem_append_right _ (List.mem_append_right _ (List.mem_append_right _ (List.mem_append_right _ (List.mem_append_right _ (List.mem_append_right _ (List.mem_append_right _ (List.mem_append_right _ (List.mem_append_left _ (List.mem_of_getElem? (i := 6) rfl)))))))))
theorem q327 : (.methodLink R_law 31 y_Nm_guest : Cond) ∈ TB := List.mem_append_right _ (List.mem_append_right _ (List.mem_append_right _ (List.mem_append_right _ (List.mem_append_right _ (List.mem_append_right _ (List.mem_append_right _ (List.mem_append_right _ (List.mem_append_left _ (List.mem_of_getElem? (i := 7) rfl)))))))))
theorem q328 : (.instanceMethod y_Nm_guest : Cond) ∈ TB := List.mem_append_right _ (List.mem_append_right _ (List.mem_append_right _ (List.mem_append_right _ (List.mem_append_right _ (List.mem_append_right _ (List.mem_append_right _ (List.mem_append_right _ (List.mem_append_left _ (List.mem_of_getElem? (i := 8) rfl)))))))))
theorem q329 : (.selects R_Nm y_Nm_guest y_Nm_guest : Cond) ∈ TB := List.mem_append_right _ (List.mem_append_right _ (List.mem_append_right _ (List.mem_append_right _ (List.mem_append_right _ (List.mem_append_right _ (List.mem_append_right _ (List.mem_append_right _ (List.mem_append_left _ (List.mem_of_getElem? (i := 9) rfl)))))))))
theorem q330 : (.code y_Nm_guest prog_1_method_6_code 3 (some .int) : Cond) ∈ TB := List.mem_append_right _ (List.mem_append_right _ (List.mem_append_right _ (List.mem_append_right _ (List.mem_append_right _ (List.mem_append_right _ (List.mem_append_right _ (List.mem_append_right _ (List.mem_append_left _ (List.mem_of_getElem? (i := 10) rfl)))))))))
theorem q331 : (.methodLink R_Nm 100 y_Menu_hasGuest : Cond) ∈ TB := List.mem_append_right _ (List.mem_append_right _ (List.mem_append_right _ (List.mem_append_right _ (List.mem_append_right _ (List.mem_append_right _ (List.mem_append_right _ (List.mem_append_right _ (List.mem_append_left _ (List.mem_of_getElem? (i := 11) rfl)))))))))
theorem q332 : (.instanceMethod y_Menu_hasGuest : Cond) ∈ TB := List.mem_append_right _ (List.mem_append_right _ (List.mem_append_right _ (List.mem_append_right _ (List.mem_append_right _ (List.mem_append_right _ (List.mem_append_right _ (List.mem_append_right _ (List.mem_append_left _ (List.mem_of_getElem? (i := 12) rfl)))))))))
theorem q333 : (.selects R_Menu y_Menu_hasGuest y_Menu_hasGuest : Cond) ∈ TB := List.mem_append_right _ (List.mem_append_right _ (List.mem_append_right _ (List.mem_append_right _ (List.mem_append_right _ (List.mem_append_right _ (List.mem_append_right _ (List.mem_append_right _ (List.mem_append_left _ (List.mem_of_getElem? (i := 13) rfl)))))))))
theorem q334 : (.code y_Menu_hasGuest prog_2_method_3_code 2 (some .boolean) : Cond) ∈ TB := List.mem_append_right _ (List.mem_append_right _ (List.mem_append_right _ (List.mem_append_right _ (List.mem_append_right _ (List.mem_append_right _ (List.mem_append_right _ (List.mem_append_right _ (List.mem_append_left _ (List.mem_of_getElem? (i := 14) rfl)))))))))
theorem q335 : (.methodLink R_Nm 104 y_Menu_kindOf : Cond) ∈ TB := List.mem_append_right _ (List.mem_append_right _ (List.mem_append_right _ (List.mem_append_right _ (List.mem_append_right _ (List.mem_append_right _ (List.mem_append_right _ (List.mem_append_right _ (List.mem_append_left _ (List.mem_of_getElem? (i := 15) rfl)))))))))
theorem q336 : (.instanceMethod y_Menu_kindOf : Cond) ∈ TB := List.mem_append_right _ (List.mem_append_right _ (List.mem_append_right _ (List.mem_append_right _ (List.mem_append_right _ (List.mem_append_right _ (List.mem_append_right _ (List.mem_append_right _ (List.mem_append_left _ (List.mem_of_getElem? (i := 16) rfl)))))))))
theorem q337 : (.selects R_Menu y_Menu_kindOf y_Menu_kindOf : Cond) ∈ TB := List.mem_append_right _ (List.mem_append_right _ (List.mem_append_right _ (List.mem_append_right _ (List.mem_append_right _ (List.mem_append_right _ (List.mem_append_right _ (List.mem_append_right _ (List.mem_append_left _ (List.mem_of_getElem? (i := 17) rfl)))))))))
theorem q338 : (.code y_Menu_kindOf prog_2_method_6_code 2 (some .int) : Cond) ∈ TB := List.mem_append_right _ (List.mem_append_right _ (List.mem_append_right _ (List.mem_append_right _ (List.mem_append_right _ (List.mem_append_right _ (List.mem_append_right _ (List.mem_append_right _ (List.mem_append_left _ (List.mem_of_getElem? (i := 18) rfl)))))))))
theorem q339 : (.static y_Nm_entry : Cond) ∈ TB := List.mem_append_right _ (List.mem_append_right _ (List.mem_append_right _ (List.mem_append_right _ (List.mem_append_right _ (List.mem_append_right _ (List.mem_append_right _ (List.mem_append_right _ (List.mem_append_left _ (List.mem_of_getElem? (i := 19) rfl)))))))))
theorem q340 : (.code y_Nm_entry prog_1_method_44_code 2 (some .int) : Cond) ∈ TB := List.mem_append_right _ (List.mem_append_right _ (List.mem_append_right _ (List.mem_append_right _ (List.mem_append_right _ (List.mem_append_right _ (List.mem_append_right _ (List.mem_append_right _ (List.mem_append_left _ (List.mem_of_getElem? (i := 20) rfl)))))))))
theorem q341 : (.methodLink R_Nm 108 y_Nm_vetoesLeft : Cond) ∈ TB := List.mem_append_right _ (List.mem_append_right _ (List.mem_append_right _ (List.mem_append_right _ (List.mem_append_right _ (List.mem_append_right _ (List.mem_append_right _ (List.mem_append_right _ (List.mem_append_left _ (List.mem_of_getElem? (i := 21) rfl)))))))))
theorem q342 : (.instanceMethod y_Nm_vetoesLeft : Cond) ∈ TB := List.mem_append_right _ (List.mem_append_right _ (List.mem_append_right _ (List.mem_append_right _ (List.mem_append_right _ (List.mem_append_right _ (List.mem_append_right _ (List.mem_append_right _ (List.mem_append_left _ (List.mem_of_getElem? (i := 22) rfl)))))))))
theorem q343 : (.code y_Nm_vetoesLeft prog_1_method_36_code 3 (some .int) : Cond) ∈ TB := List.mem_append_right _ (List.mem_append_right _ (List.mem_append_right _ (List.mem_append_right _ (List.mem_append_right _ (List.mem_append_right _ (List.mem_append_right _ (List.mem_append_right _ (List.mem_append_left _ (List.mem_of_getElem? (i := 23) rfl)))))))))
theorem q344 : (.methodLink R_Nm 276 y_Table_spentBy : Cond) ∈ TB := List.mem_append_right _ (List.mem_append_right _ (List.mem_append_right _ (List.mem_append_right _ (List.mem_append_right _ (List.mem_append_right _ (List.mem_append_right _ (List.mem_append_right _ (List.mem_append_left _ (List.mem_of_getElem? (i := 24) rfl)))))))))
theorem q345 : (.instanceMethod y_Table_spentBy : Cond) ∈ TB := List.mem_append_right _ (List.mem_append_right _ (List.mem_append_right _ (List.mem_append_right _ (List.mem_append_right _ (List.mem_append_right _ (List.mem_append_right _ (List.mem_append_right _ (List.mem_append_left _ (List.mem_of_getElem? (i := 25) rfl)))))))))
theorem q346 : (.selects R_Table y_Table_spentBy y_Table_spentBy : Cond) ∈ TB := List.mem_append_right _ (List.mem_append_right _ (List.mem_append_right _ (List.mem_append_right _ (List.mem_append_right _ (List.mem_append_right _ (List.mem_append_right _ (List.mem_append_right _ (List.mem_append_left _ (List.mem_of_getElem? (i := 26) rfl)))))))))
theorem q347 : (.code y_Table_spentBy prog_8_method_6_code 2 (some .int) : Cond) ∈ TB := List.mem_append_right _ (List.mem_append_right _ (List.mem_append_right _ (List.mem_append_right _ (List.mem_append_right _ (List.mem_append_right _ (List.mem_append_right _ (List.mem_append_right _ (List.mem_append_left _ (List.mem_of_getElem? (i := 27) rfl)))))))))
theorem q348 : (.methodLink R_Nm 112 y_Nm_now : Cond) ∈ TB := List.mem_append_right _ (List.mem_append_right _ (List.mem_append_right _ (List.mem_append_right _ (List.mem_append_right _ (List.mem_append_right _ (List.mem_append_right _ (List.mem_append_right _ (List.mem_append_left _ (List.mem_of_getElem? (i := 28) rfl)))))))))
theorem q349 : (.instanceMethod y_Nm_now : Cond) ∈ TB := List.mem_append_right _ (List.mem_append_right _ (List.mem_append_right _ (List.mem_append_right _ (List.mem_append_right _ (List.mem_append_right _ (List.mem_append_right _ (List.mem_append_right _ (List.mem_append_left _ (List.mem_of_getElem? (i := 29) rfl)))))))))
theorem q350 : (.code y_Nm_now prog_1_method_34_code 1 (some (.object "NoneMinds$Moment")) : Cond) ∈ TB := List.mem_append_right _ (List.mem_append_right _ (List.mem_append_right _ (List.mem_append_right _ (List.mem_append_right _ (List.mem_append_right _ (List.mem_append_right _ (List.mem_append_right _ (List.mem_append_left _ (List.mem_of_getElem? (i := 30) rfl)))))))))
theorem q351 : (.methodLink R_Nm 204 y_Nm_at : Cond) ∈ TB := List.mem_append_right _ (List.mem_append_right _ (List.mem_append_right _ (List.mem_append_right _ (List.mem_append_right _ (List.mem_append_right _ (List.mem_append_right _ (List.mem_append_right _ (List.mem_append_left _ (List.mem_of_getElem? (i := 31) rfl)))))))))
theorem q352 : (.instanceMethod y_Nm_at : Cond) ∈ TB := List.mem_append_right _ (List.mem_append_right _ (List.mem_append_right _ (List.mem_append_right _ (List.mem_append_right _ (List.mem_append_right _ (List.mem_append_right _ (List.mem_append_right _ (List.mem_append_left _ (List.mem_of_getElem? (i := 32) rfl)))))))))
theorem q353 : (.code y_Nm_at prog_1_method_33_code 3 (some (.object "NoneMinds$Moment")) : Cond) ∈ TB := List.mem_append_right _ (List.mem_append_right _ (List.mem_append_right _ (List.mem_append_right _ (List.mem_append_right _ (List.mem_append_right _ (List.mem_append_right _ (List.mem_append_right _ (List.mem_append_left _ (List.mem_of_getElem? (i := 33) rfl)))))))))
theorem q354 : (.methodLink R_Nm 270 y_Menu_allDishes : Cond) ∈ TB := List.mem_append_right _ (List.mem_append_right _ (List.mem_append_right _ (List.mem_append_right _ (List.mem_append_right _ (List.mem_append_right _ (List.mem_append_right _ (List.mem_append_right _ (List.mem_append_left _ (List.mem_of_getElem? (i := 34) rfl)))))))))
theorem q355 : (.instanceMethod y_Menu_allDishes : Cond) ∈ TB := List.mem_append_right _ (List.mem_append_right _ (List.mem_append_right _ (List.mem_append_right _ (List.mem_append_right _ (List.mem_append_right _ (List.mem_append_right _ (List.mem_append_right _ (List.mem_append_left _ (List.mem_of_getElem? (i := 35) rfl)))))))))
theorem q356 : (.selects R_Menu y_Menu_allDishes y_Menu_allDishes : Cond) ∈ TB := List.mem_append_right _ (List.mem_append_right _ (List.mem_append_right _ (List.mem_append_right _ (List.mem_append_right _ (List.mem_append_right _ (List.mem_append_right _ (List.mem_append_right _ (List.mem_append_left _ (List.mem_of_getElem? (i := 36) rfl)))))))))
theorem q357 : (.code y_Menu_allDishes prog_2_method_5_code 1 (some .int) : Cond) ∈ TB := List.mem_append_right _ (List.mem_append_right _ (List.mem_append_right _ (List.mem_append_right _ (List.mem_append_right _ (List.mem_append_right _ (List.mem_append_right _ (List.mem_append_right _ (List.mem_append_left _ (List.mem_of_getElem? (i := 37) rfl)))))))))
theorem q358 : (.methodLink R_Nm 116 y_Moment_heartsOf : Cond) ∈ TB := List.mem_append_right _ (List.mem_append_right _ (List.mem_append_right _ (List.mem_append_right _ (List.mem_append_right _ (List.mem_append_right _ (List.mem_append_right _ (List.mem_append_right _ (List.mem_append_left _ (List.mem_of_getElem? (i := 38) rfl)))))))))
theorem q359 : (.instanceMethod y_Moment_heartsOf : Cond) ∈ TB := List.mem_append_right _ (List.mem_append_right _ (List.mem_append_right _ (List.mem_append_right _ (List.mem_append_right _ (List.mem_append_right _ (List.mem_append_right _ (List.mem_append_right _ (List.mem_append_left _ (List.mem_of_getElem? (i := 39) rfl)))))))))
theorem q360 : (.selects R_Moment y_Moment_heartsOf y_Moment_heartsOf : Cond) ∈ TB := List.mem_append_right _ (List.mem_append_right _ (List.mem_append_right _ (List.mem_append_right _ (List.mem_append_right _ (List.mem_append_right _ (List.mem_append_right _ (List.mem_append_right _ (List.mem_append_right _ (List.mem_append_left _ (List.mem_of_getElem? (i := 0) rfl))))))))))
theorem q361 : (.code y_Moment_heartsOf prog_3_method_9_code 4 (some .int) : Cond) ∈ TB := List.mem_append_right _ (List.mem_append_right _ (List.mem_append_right _ (List.mem_append_right _ (List.mem_append_right _ (List.mem_append_right _ (List.mem_append_right _ (List.mem_append_right _ (List.mem_append_right _ (List.mem_append_left _ (List.mem_of_getElem? (i := 1) rfl))))))))))
theorem q362 : (.methodLink R_Moment 53 y_Menu_kindOf : Cond) ∈ TB := List.mem_append_right _ (List.mem_append_right _ (List.mem_append_right _ (List.mem_append_right _ (List.mem_append_right _ (List.mem_append_right _ (List.mem_append_right _ (List.mem_append_right _ (List.mem_append_right _ (List.mem_append_left _ (List.mem_of_getElem? (i := 2) rfl))))))))))
theorem q363 : (.methodLink R_Moment 56 y_Moment_gives : Cond) ∈ TB := List.mem_append_right _ (List.mem_append_right _ (List.mem_append_right _ (List.mem_append_right _ (List.mem_append_right _ (List.mem_append_right _ (List.mem_append_right _ (List.mem_append_right _ (List.mem_append_right _ (List.mem_append_left _ (List.mem_of_getElem? (i := 3) rfl))))))))))
theorem q364 : (.instanceMethod y_Moment_gives : Cond) ∈ TB := List.mem_append_right _ (List.mem_append_right _ (List.mem_append_right _ (List.mem_append_right _ (List.mem_append_right _ (List.mem_append_right _ (List.mem_append_right _ (List.mem_append_right _ (List.mem_append_right _ (List.mem_append_left _ (List.mem_of_getElem? (i := 4) rfl))))))))))
theorem q365 : (.selects R_Moment y_Moment_gives y_Moment_gives : Cond) ∈ TB := List.mem_append_right _ (List.mem_append_right _ (List.mem_append_right _ (List.mem_append_right _ (List.mem_append_right _ (List.mem_append_right _ (List.mem_append_right _ (List.mem_append_right _ (List.mem_append_right _ (List.mem_append_left _ (List.mem_of_getElem? (i := 5) rfl))))))))))
theorem q366 : (.code y_Moment_gives prog_3_method_8_code 4 (some .boolean) : Cond) ∈ TB := List.mem_append_right _ (List.mem_append_right _ (List.mem_append_right _ (List.mem_append_right _ (List.mem_append_right _ (List.mem_append_right _ (List.mem_append_right _ (List.mem_append_right _ (List.mem_append_right _ (List.mem_append_left _ (List.mem_of_getElem? (i := 6) rfl))))))))))
theorem q367 : (.methodLink R_Moment 45 y_Moment_isIn : Cond) ∈ TB := List.mem_append_right _ (List.mem_append_right _ (List.mem_append_right _ (List.mem_append_right _ (List.mem_append_right _ (List.mem_append_right _ (List.mem_append_right _ (List.mem_append_right _ (List.mem_append_right _ (List.mem_append_left _ (List.mem_of_getElem? (i := 7) rfl))))))))))
theorem q368 : (.static y_Moment_isIn : Cond) ∈ TB := List.mem_append_right _ (List.mem_append_right _ (List.mem_append_right _ (List.mem_append_right _ (List.mem_append_right _ (List.mem_append_right _ (List.mem_append_right _ (List.mem_append_right _ (List.mem_append_right _ (List.mem_append_left _ (List.mem_of_getElem? (i := 8) rfl))))))))))
theorem q369 : (.code y_Moment_isIn prog_3_method_23_code 2 (some .boolean) : Cond) ∈ TB := List.mem_append_right _ (List.mem_append_right _ (List.mem_append_right _ (List.mem_append_right _ (List.mem_append_right _ (List.mem_append_right _ (List.mem_append_right _ (List.mem_append_right _ (List.mem_append_right _ (List.mem_append_left _ (List.mem_of_getElem? (i := 9) rfl))))))))))
theorem q370 : (.methodLink R_Moment 36 y_Moment_value : Cond) ∈ TB := List.mem_append_right _ (List.mem_append_right _ (List.mem_append_right _ (List.mem_append_right _ (List.mem_append_right _ (List.mem_append_right _ (List.mem_append_right _ (List.mem_append_right _ (List.mem_append_right _ (List.mem_append_left _ (List.mem_of_getElem? (i := 10) rfl))))))))))
theorem q371 : (.instanceMethod y_Moment_value : Cond) ∈ TB := List.mem_append_right _ (List.mem_append_right _ (List.mem_append_right _ (List.mem_append_right _ (List.mem_append_right _ (List.mem_append_right _ (List.mem_append_right _ (List.mem_append_right _ (List.mem_append_right _ (List.mem_append_left _ (List.mem_of_getElem? (i := 11) rfl))))))))))
theorem q372 : (.selects R_Moment y_Moment_value y_Moment_value : Cond) ∈ TB := List.mem_append_right _ (List.mem_append_right _ (List.mem_append_right _ (List.mem_append_right _ (List.mem_append_right _ (List.mem_append_right _ (List.mem_append_right _ (List.mem_append_right _ (List.mem_append_right _ (List.mem_append_left _ (List.mem_of_getElem? (i := 12) rfl))))))))))
theorem q373 : (.code y_Moment_value prog_3_method_2_code 4 (some .int) : Cond) ∈ TB := List.mem_append_right _ (List.mem_append_right _ (List.mem_append_right _ (List.mem_append_right _ (List.mem_append_right _ (List.mem_append_right _ (List.mem_append_right _ (List.mem_append_right _ (List.mem_append_right _ (List.mem_append_left _ (List.mem_of_getElem? (i := 13) rfl))))))))))
theorem q374 : (.methodLink R_Moment 15 y_Menu_toldWorth : Cond) ∈ TB := List.mem_append_right _ (List.mem_append_right _ (List.mem_append_right _ (List.mem_append_right _ (List.mem_append_right _ (List.mem_append_right _ (List.mem_append_right _ (List.mem_append_right _ (List.mem_append_right _ (List.mem_append_left _ (List.mem_of_getElem? (i := 14) rfl))))))))))
theorem q375 : (.instanceMethod y_Menu_toldWorth : Cond) ∈ TB := List.mem_append_right _ (List.mem_append_right _ (List.mem_append_right _ (List.mem_append_right _ (List.mem_append_right _ (List.mem_append_right _ (List.mem_append_right _ (List.mem_append_right _ (List.mem_append_right _ (List.mem_append_left _ (List.mem_of_getElem? (i := 15) rfl))))))))))
theorem q376 : (.selects R_Menu y_Menu_toldWorth y_Menu_toldWorth : Cond) ∈ TB := List.mem_append_right _ (List.mem_append_right _ (List.mem_append_right _ (List.mem_append_right _ (List.mem_append_right _ (List.mem_append_right _ (List.mem_append_right _ (List.mem_append_right _ (List.mem_append_right _ (List.mem_append_left _ (List.mem_of_getElem? (i := 16) rfl))))))))))
theorem q377 : (.code y_Menu_toldWorth prog_2_method_9_code 3 (some .int) : Cond) ∈ TB := List.mem_append_right _ (List.mem_append_right _ (List.mem_append_right _ (List.mem_append_right _ (List.mem_append_right _ (List.mem_append_right _ (List.mem_append_right _ (List.mem_append_right _ (List.mem_append_right _ (List.mem_append_left _ (List.mem_of_getElem? (i := 17) rfl))))))))))
theorem q378 : (.methodLink R_Menu 49 y_Menu_hasGuest : Cond) ∈ TB := List.mem_append_right _ (List.mem_append_right _ (List.mem_append_right _ (List.mem_append_right _ (List.mem_append_right _ (List.mem_append_right _ (List.mem_append_right _ (List.mem_append_right _ (List.mem_append_right _ (List.mem_append_left _ (List.mem_of_getElem? (i := 18) rfl))))))))))
theorem q379 : (.methodLink R_Menu 53 y_Menu_hasDish : Cond) ∈ TB := List.mem_append_right _ (List.mem_append_right _ (List.mem_append_right _ (List.mem_append_right _ (List.mem_append_right _ (List.mem_append_right _ (List.mem_append_right _ (List.mem_append_right _ (List.mem_append_right _ (List.mem_append_left _ (List.mem_of_getElem? (i := 19) rfl))))))))))
theorem q380 : (.methodLink R_Moment 28 y_Math_min_7cf53 : Cond) ∈ TB := List.mem_append_right _ (List.mem_append_right _ (List.mem_append_right _ (List.mem_append_right _ (List.mem_append_right _ (List.mem_append_right _ (List.mem_append_right _ (List.mem_append_right _ (List.mem_append_right _ (List.mem_append_left _ (List.mem_of_getElem? (i := 20) rfl))))))))))
theorem q381 : (.static y_Math_min_7cf53 : Cond) ∈ TB := List.mem_append_right _ (List.mem_append_right _ (List.mem_append_right _ (List.mem_append_right _ (List.mem_append_right _ (List.mem_append_right _ (List.mem_append_right _ (List.mem_append_right _ (List.mem_append_right _ (List.mem_append_left _ (List.mem_of_getElem? (i := 21) rfl))))))))))
theorem q382 : (.code y_Math_min_7cf53 prog_12_method_69_code 2 (some .int) : Cond) ∈ TB := List.mem_append_right _ (List.mem_append_right _ (List.mem_append_right _ (List.mem_append_right _ (List.mem_append_right _ (List.mem_append_right _ (List.mem_append_right _ (List.mem_append_right _ (List.mem_append_right _ (List.mem_append_left _ (List.mem_of_getElem? (i := 22) rfl))))))))))
theorem q383 : (.methodLink R_Moment 49 y_Moment_favourite : Cond) ∈ TB := List.mem_append_right _ (List.mem_append_right _ (List.mem_append_right _ (List.mem_append_right _ (List.mem_append_right _ (List.mem_append_right _ (List.mem_append_right _ (List.mem_append_right _ (List.mem_append_right _ (List.mem_append_left _ (List.mem_of_getElem? (i := 23) rfl))))))))))
theorem q384 : (.instanceMethod y_Moment_favourite : Cond) ∈ TB := List.mem_append_right _ (List.mem_append_right _ (List.mem_append_right _ (List.mem_append_right _ (List.mem_append_right _ (List.mem_append_right _ (List.mem_append_right _ (List.mem_append_right _ (List.mem_append_right _ (List.mem_append_left _ (List.mem_of_getElem? (i := 24) rfl))))))))))
theorem q385 : (.selects R_Moment y_Moment_favourite y_Moment_favourite : Cond) ∈ TB := List.mem_append_right _ (List.mem_append_right _ (List.mem_append_right _ (List.mem_append_right _ (List.mem_append_right _ (List.mem_append_right _ (List.mem_append_right _ (List.mem_append_right _ (List.mem_append_right _ (List.mem_append_left _ (List.mem_of_getElem? (i := 25) rfl))))))))))
theorem q386 : (.code y_Moment_favourite prog_3_method_6_code 4 (some .int) : Cond) ∈ TB := List.mem_append_right _ (List.mem_append_right _ (List.mem_append_right _ (List.mem_append_right _ (List.mem_append_right _ (List.mem_append_right _ (List.mem_append_right _ (List.mem_append_right _ (List.mem_append_right _ (List.mem_append_left _ (List.mem_of_getElem? (i := 26) rfl))))))))))
theorem q387 : (.methodLink R_Nm 119 y_Moment_favourite : Cond) ∈ TB := List.mem_append_right _ (List.mem_append_right _ (List.mem_append_right _ (List.mem_append_right _ (List.mem_append_right _ (List.mem_append_right _ (List.mem_append_right _ (List.mem_append_right _ (List.mem_append_right _ (List.mem_append_left _ (List.mem_of_getElem? (i := 27) rfl))))))))))
theorem q388 : (.methodLink R_law 36 y_Nm_dish : Cond) ∈ TB := List.mem_append_right _ (List.mem_append_right _ (List.mem_append_right _ (List.mem_append_right _ (List.mem_append_right _ (List.mem_append_right _ (List.mem_append_right _ (List.mem_append_right _ (List.mem_append_right _ (List.mem_append_left _ (List.mem_of_getElem? (i := 28) rfl))))))))))
theorem q389 : (.instanceMethod y_Nm_dish : Cond) ∈ TB := List.mem_append_right _ (List.mem_append_right _ (List.mem_append_right _ (List.mem_append_right _ (List.mem_append_right _ (List.mem_append_right _ (List.mem_append_right _ (List.mem_append_right _ (List.mem_append_right _ (List.mem_append_left _ (List.mem_of_getElem? (i := 29) rfl))))))))))
theorem q390 : (.selects R_Nm y_Nm_dish y_Nm_dish : Cond) ∈ TB := List.mem_append_right _ (List.mem_append_right _ (List.mem_append_right _ (List.mem_append_right _ (List.mem_append_right _ (List.mem_append_right _ (List.mem_append_right _ (List.mem_append_right _ (List.mem_append_right _ (List.mem_append_left _ (List.mem_of_getElem? (i := 30) rfl))))))))))
theorem q391 : (.code y_Nm_dish prog_1_method_7_code 3 (some .int) : Cond) ∈ TB := List.mem_append_right _ (List.mem_append_right _ (List.mem_append_right _ (List.mem_append_right _ (List.mem_append_right _ (List.mem_append_right _ (List.mem_append_right _ (List.mem_append_right _ (List.mem_append_right _ (List.mem_append_left _ (List.mem_of_getElem? (i := 31) rfl))))))))))
theorem q392 : (.methodLink R_Nm 122 y_Menu_hasDish : Cond) ∈ TB := List.mem_append_right _ (List.mem_append_right _ (List.mem_append_right _ (List.mem_append_right _ (List.mem_append_right _ (List.mem_append_right _ (List.mem_append_right _ (List.mem_append_right _ (List.mem_append_right _ (List.mem_append_left _ (List.mem_of_getElem? (i := 32) rfl))))))))))
theorem q393 : (.methodLink R_Nm 125 y_Menu_minutesOf : Cond) ∈ TB := List.mem_append_right _ (List.mem_append_right _ (List.mem_append_right _ (List.mem_append_right _ (List.mem_append_right _ (List.mem_append_right _ (List.mem_append_right _ (List.mem_append_right _ (List.mem_append_right _ (List.mem_append_left _ (List.mem_of_getElem? (i := 33) rfl))))))))))
theorem q394 : (.instanceMethod y_Menu_minutesOf : Cond) ∈ TB := List.mem_append_right _ (List.mem_append_right _ (List.mem_append_right _ (List.mem_append_right _ (List.mem_append_right _ (List.mem_append_right _ (List.mem_append_right _ (List.mem_append_right _ (List.mem_append_right _ (List.mem_append_left _ (List.mem_of_getElem? (i := 34) rfl))))))))))
theorem q395 : (.selects R_Menu y_Menu_minutesOf y_Menu_minutesOf : Cond) ∈ TB := List.mem_append_right _ (List.mem_append_right _ (List.mem_append_right _ (List.mem_append_right _ (List.mem_append_right _ (List.mem_append_right _ (List.mem_append_right _ (List.mem_append_right _ (List.mem_append_right _ (List.mem_append_left _ (List.mem_of_getElem? (i := 35) rfl))))))))))
theorem q396 : (.code y_Menu_minutesOf prog_2_method_7_code 2 (some .int) : Cond) ∈ TB := List.mem_append_right _ (List.mem_append_right _ (List.mem_append_right _ (List.mem_append_right _ (List.mem_append_right _ (List.mem_append_right _ (List.mem_append_right _ (List.mem_append_right _ (List.mem_append_right _ (List.mem_append_left _ (List.mem_of_getElem? (i := 36) rfl))))))))))
theorem q397 : (.methodLink R_Nm 128 y_Table_isVetoed : Cond) ∈ TB := List.mem_append_right _ (List.mem_append_right _ (List.mem_append_right _ (List.mem_append_right _ (List.mem_append_right _ (List.mem_append_right _ (List.mem_append_right _ (List.mem_append_right _ (List.mem_append_right _ (List.mem_append_left _ (List.mem_of_getElem? (i := 37) rfl))))))))))
theorem q398 : (.instanceMethod y_Table_isVetoed : Cond) ∈ TB := List.mem_append_right _ (List.mem_append_right _ (List.mem_append_right _ (List.mem_append_right _ (List.mem_append_right _ (List.mem_append_right _ (List.mem_append_right _ (List.mem_append_right _ (List.mem_append_right _ (List.mem_append_left _ (List.mem_of_getElem? (i := 38) rfl))))))))))
theorem q399 : (.selects R_Table y_Table_isVetoed y_Table_isVetoed : Cond) ∈ TB := List.mem_append_right _ (List.mem_append_right _ (List.mem_append_right _ (List.mem_append_right _ (List.mem_append_right _ (List.mem_append_right _ (List.mem_append_right _ (List.mem_append_right _ (List.mem_append_right _ (List.mem_append_left _ (List.mem_of_getElem? (i := 39) rfl))))))))))
theorem q400 : (.code y_Table_isVetoed prog_8_method_5_code 2 (some .boolean) : Cond) ∈ TB := List.mem_append_right _ (List.mem_append_right _ (List.mem_append_right _ (List.mem_append_right _ (List.mem_append_right _ (List.mem_append_right _ (List.mem_append_right _ (List.mem_append_right _ (List.mem_append_right _ (List.mem_append_right _ (List.mem_append_left _ (List.mem_of_getElem? (i := 0) rfl)))))))))))
theorem q401 : (.methodLink R_Nm 131 y_Moment_heartsOn : Cond) ∈ TB := List.mem_append_right _ (List.mem_append_right _ (List.mem_append_right _ (List.mem_append_right _ (List.mem_append_right _ (List.mem_append_right _ (List.mem_append_right _ (List.mem_append_right _ (List.mem_append_right _ (List.mem_append_right _ (List.mem_append_left _ (List.mem_of_getElem? (i := 1) rfl)))))))))))
theorem q402 : (.instanceMethod y_Moment_heartsOn : Cond) ∈ TB := List.mem_append_right _ (List.mem_append_right _ (List.mem_append_right _ (List.mem_append_right _ (List.mem_append_right _ (List.mem_append_right _ (List.mem_append_right _ (List.mem_append_right _ (List.mem_append_right _ (List.mem_append_right _ (List.mem_append_left _ (List.mem_of_getElem? (i := 2) rfl)))))))))))
theorem q403 : (.selects R_Moment y_Moment_heartsOn y_Moment_heartsOn : Cond) ∈ TB := List.mem_append_right _ (List.mem_append_right _ (List.mem_append_right _ (List.mem_append_right _ (List.mem_append_right _ (List.mem_append_right _ (List.mem_append_right _ (List.mem_append_right _ (List.mem_append_right _ (List.mem_append_right _ (List.mem_append_left _ (List.mem_of_getElem? (i := 3) rfl)))))))))))
theorem q404 : (.code y_Moment_heartsOn prog_3_method_10_code 4 (some .int) : Cond) ∈ TB := List.mem_append_right _ (List.mem_append_right _ (List.mem_append_right _ (List.mem_append_right _ (List.mem_append_right _ (List.mem_append_right _ (List.mem_append_right _ (List.mem_append_right _ (List.mem_append_right _ (List.mem_append_right _ (List.mem_append_left _ (List.mem_of_getElem? (i := 4) rfl)))))))))))
theorem q405 : (.methodLink R_Nm 134 y_Moment_together : Cond) ∈ TB := List.mem_append_right _ (List.mem_append_right _ (List.mem_append_right _ (List.mem_append_right _ (List.mem_append_right _ (List.mem_append_right _ (List.mem_append_right _ (List.mem_append_right _ (List.mem_append_right _ (List.mem_append_right _ (List.mem_append_left _ (List.mem_of_getElem? (i := 5) rfl)))))))))))
theorem q406 : (.instanceMethod y_Moment_together : Cond) ∈ TB := List.mem_append_right _ (List.mem_append_right _ (List.mem_append_right _ (List.mem_append_right _ (List.mem_append_right _ (List.mem_append_right _ (List.mem_append_right _ (List.mem_append_right _ (List.mem_append_right _ (List.mem_append_right _ (List.mem_append_left _ (List.mem_of_getElem? (i := 6) rfl)))))))))))
theorem q407 : (.selects R_Moment y_Moment_together y_Moment_together : Cond) ∈ TB := List.mem_append_right _ (List.mem_append_right _ (List.mem_append_right _ (List.mem_append_right _ (List.mem_append_right _ (List.mem_append_right _ (List.mem_append_right _ (List.mem_append_right _ (List.mem_append_right _ (List.mem_append_right _ (List.mem_append_left _ (List.mem_of_getElem? (i := 7) rfl)))))))))))
theorem q408 : (.code y_Moment_together prog_3_method_3_code 5 (some .int) : Cond) ∈ TB := List.mem_append_right _ (List.mem_append_right _ (List.mem_append_right _ (List.mem_append_right _ (List.mem_append_right _ (List.mem_append_right _ (List.mem_append_right _ (List.mem_append_right _ (List.mem_append_right _ (List.mem_append_right _ (List.mem_append_left _ (List.mem_of_getElem? (i := 8) rfl)))))))))))
theorem q409 : (.methodLink R_law 40 y_Nm_worth : Cond) ∈ TB := List.mem_append_right _ (List.mem_append_right _ (List.mem_append_right _ (List.mem_append_right _ (List.mem_append_right _ (List.mem_append_right _ (List.mem_append_right _ (List.mem_append_right _ (List.mem_append_right _ (List.mem_append_right _ (List.mem_append_left _ (List.mem_of_getElem? (i := 9) rfl)))))))))))
theorem q410 : (.instanceMethod y_Nm_worth : Cond) ∈ TB := List.mem_append_right _ (List.mem_append_right _ (List.mem_append_right _ (List.mem_append_right _ (List.mem_append_right _ (List.mem_append_right _ (List.mem_append_right _ (List.mem_append_right _ (List.mem_append_right _ (List.mem_append_right _ (List.mem_append_left _ (List.mem_of_getElem? (i := 10) rfl)))))))))))
theorem q411 : (.selects R_Nm y_Nm_worth y_Nm_worth : Cond) ∈ TB := List.mem_append_right _ (List.mem_append_right _ (List.mem_append_right _ (List.mem_append_right _ (List.mem_append_right _ (List.mem_append_right _ (List.mem_append_right _ (List.mem_append_right _ (List.mem_append_right _ (List.mem_append_right _ (List.mem_append_left _ (List.mem_of_getElem? (i := 11) rfl)))))))))))
theorem q412 : (.code y_Nm_worth prog_1_method_8_code 3 (some .int) : Cond) ∈ TB := List.mem_append_right _ (List.mem_append_right _ (List.mem_append_right _ (List.mem_append_right _ (List.mem_append_right _ (List.mem_append_right _ (List.mem_append_right _ (List.mem_append_right _ (List.mem_append_right _ (List.mem_append_right _ (List.mem_append_left _ (List.mem_of_getElem? (i := 12) rfl)))))))))))
theorem q413 : (.methodLink R_Nm 138 y_Moment_value : Cond) ∈ TB := List.mem_append_right _ (List.mem_append_right _ (List.mem_append_right _ (List.mem_append_right _ (List.mem_append_right _ (List.mem_append_right _ (List.mem_append_right _ (List.mem_append_right _ (List.mem_append_right _ (List.mem_append_right _ (List.mem_append_left _ (List.mem_of_getElem? (i := 13) rfl)))))))))))
theorem q414 : (.methodLink R_law 44 y_Nm_pass : Cond) ∈ TB := List.mem_append_right _ (List.mem_append_right _ (List.mem_append_right _ (List.mem_append_right _ (List.mem_append_right _ (List.mem_append_right _ (List.mem_append_right _ (List.mem_append_right _ (List.mem_append_right _ (List.mem_append_right _ (List.mem_append_left _ (List.mem_of_getElem? (i := 14) rfl)))))))))))
theorem q415 : (.instanceMethod y_Nm_pass : Cond) ∈ TB := List.mem_append_right _ (List.mem_append_right _ (List.mem_append_right _ (List.mem_append_right _ (List.mem_append_right _ (List.mem_append_right _ (List.mem_append_right _ (List.mem_append_right _ (List.mem_append_right _ (List.mem_append_right _ (List.mem_append_left _ (List.mem_of_getElem? (i := 15) rfl)))))))))))
theorem q416 : (.selects R_Nm y_Nm_pass y_Nm_pass : Cond) ∈ TB := List.mem_append_right _ (List.mem_append_right _ (List.mem_append_right _ (List.mem_append_right _ (List.mem_append_right _ (List.mem_append_right _ (List.mem_append_right _ (List.mem_append_right _ (List.mem_append_right _ (List.mem_append_right _ (List.mem_append_left _ (List.mem_of_getElem? (i := 16) rfl)))))))))))
theorem q417 : (.code y_Nm_pass prog_1_method_9_code 2 (some .int) : Cond) ∈ TB := List.mem_append_right _ (List.mem_append_right _ (List.mem_append_right _ (List.mem_append_right _ (List.mem_append_right _ (List.mem_append_right _ (List.mem_append_right _ (List.mem_append_right _ (List.mem_append_right _ (List.mem_append_right _ (List.mem_append_left _ (List.mem_of_getElem? (i := 17) rfl)))))))))))
theorem q418 : (.methodLink R_Nm 141 y_Table_isOrdered : Cond) ∈ TB := List.mem_append_right _ (List.mem_append_right _ (List.mem_append_right _ (List.mem_append_right _ (List.mem_append_right _ (List.mem_append_right _ (List.mem_append_right _ (List.mem_append_right _ (List.mem_append_right _ (List.mem_append_right _ (List.mem_append_left _ (List.mem_of_getElem? (i := 18) rfl)))))))))))
theorem q419 : (.instanceMethod y_Table_isOrdered : Cond) ∈ TB := List.mem_append_right _ (List.mem_append_right _ (List.mem_append_right _ (List.mem_append_right _ (List.mem_append_right _ (List.mem_append_right _ (List.mem_append_right _ (List.mem_append_right _ (List.mem_append_right _ (List.mem_append_right _ (List.mem_append_left _ (List.mem_of_getElem? (i := 19) rfl)))))))))))
theorem q420 : (.selects R_Table y_Table_isOrdered y_Table_isOrdered : Cond) ∈ TB := List.mem_append_right _ (List.mem_append_right _ (List.mem_append_right _ (List.mem_append_right _ (List.mem_append_right _ (List.mem_append_right _ (List.mem_append_right _ (List.mem_append_right _ (List.mem_append_right _ (List.mem_append_right _ (List.mem_append_left _ (List.mem_of_getElem? (i := 20) rfl)))))))))))
theorem q421 : (.code y_Table_isOrdered prog_8_method_4_code 1 (some .boolean) : Cond) ∈ TB := List.mem_append_right _ (List.mem_append_right _ (List.mem_append_right _ (List.mem_append_right _ (List.mem_append_right _ (List.mem_append_right _ (List.mem_append_right _ (List.mem_append_right _ (List.mem_append_right _ (List.mem_append_right _ (List.mem_append_left _ (List.mem_of_getElem? (i := 21) rfl)))))))))))
theorem q422 : (.methodLink R_Nm 148 y_Pile_push : Cond) ∈ TB := List.mem_append_right _ (List.mem_append_right _ (List.mem_append_right _ (List.mem_append_right _ (List.mem_append_right _ (List.mem_append_right _ (List.mem_append_right _ (List.mem_append_right _ (List.mem_append_right _ (List.mem_append_right _ (List.mem_append_left _ (List.mem_of_getElem? (i := 22) rfl)))))))))))
theorem q423 : (.instanceMethod y_Pile_push : Cond) ∈ TB := List.mem_append_right _ (List.mem_append_right _ (List.mem_append_right _ (List.mem_append_right _ (List.mem_append_right _ (List.mem_append_right _ (List.mem_append_right _ (List.mem_append_right _ (List.mem_append_right _ (List.mem_append_right _ (List.mem_append_left _ (List.mem_of_getElem? (i := 23) rfl)))))))))))
theorem q424 : (.selects R_Pile y_Pile_push y_Pile_push : Cond) ∈ TB := List.mem_append_right _ (List.mem_append_right _ (List.mem_append_right _ (List.mem_append_right _ (List.mem_append_right _ (List.mem_append_right _ (List.mem_append_right _ (List.mem_append_right _ (List.mem_append_right _ (List.mem_append_right _ (List.mem_append_left _ (List.mem_of_getElem? (i := 24) rfl)))))))))))
theorem q425 : (.code y_Pile_push prog_6_method_2_code 2 none : Cond) ∈ TB := List.mem_append_right _ (List.mem_append_right _ (List.mem_append_right _ (List.mem_append_right _ (List.mem_append_right _ (List.mem_append_right _ (List.mem_append_right _ (List.mem_append_right _ (List.mem_append_right _ (List.mem_append_right _ (List.mem_append_left _ (List.mem_of_getElem? (i := 25) rfl)))))))))))
theorem q426 : (.methodLink R_Pile 20 y_Pile_dropLowest : Cond) ∈ TB := List.mem_append_right _ (List.mem_append_right _ (List.mem_append_right _ (List.mem_append_right _ (List.mem_append_right _ (List.mem_append_right _ (List.mem_append_right _ (List.mem_append_right _ (List.mem_append_right _ (List.mem_append_right _ (List.mem_append_left _ (List.mem_of_getElem? (i := 26) rfl)))))))))))
theorem q427 : (.instanceMethod y_Pile_dropLowest : Cond) ∈ TB := List.mem_append_right _ (List.mem_append_right _ (List.mem_append_right _ (List.mem_append_right _ (List.mem_append_right _ (List.mem_append_right _ (List.mem_append_right _ (List.mem_append_right _ (List.mem_append_right _ (List.mem_append_right _ (List.mem_append_left _ (List.mem_of_getElem? (i := 27) rfl)))))))))))
theorem q428 : (.code y_Pile_dropLowest prog_6_method_4_code 2 none : Cond) ∈ TB := List.mem_append_right _ (List.mem_append_right _ (List.mem_append_right _ (List.mem_append_right _ (List.mem_append_right _ (List.mem_append_right _ (List.mem_append_right _ (List.mem_append_right _ (List.mem_append_right _ (List.mem_append_right _ (List.mem_append_left _ (List.mem_of_getElem? (i := 28) rfl)))))))))))
theorem q429 : (.methodLink R_Pile 23 y_Pile_get : Cond) ∈ TB := List.mem_append_right _ (List.mem_append_right _ (List.mem_append_right _ (List.mem_append_right _ (List.mem_append_right _ (List.mem_append_right _ (List.mem_append_right _ (List.mem_append_right _ (List.mem_append_right _ (List.mem_append_right _ (List.mem_append_left _ (List.mem_of_getElem? (i := 29) rfl)))))))))))
theorem q430 : (.instanceMethod y_Pile_get : Cond) ∈ TB := List.mem_append_right _ (List.mem_append_right _ (List.mem_append_right _ (List.mem_append_right _ (List.mem_append_right _ (List.mem_append_right _ (List.mem_append_right _ (List.mem_append_right _ (List.mem_append_right _ (List.mem_append_right _ (List.mem_append_left _ (List.mem_of_getElem? (i := 30) rfl)))))))))))
theorem q431 : (.code y_Pile_get prog_6_method_5_code 2 (some (.object "NoneMinds$Table")) : Cond) ∈ TB := List.mem_append_right _ (List.mem_append_right _ (List.mem_append_right _ (List.mem_append_right _ (List.mem_append_right _ (List.mem_append_right _ (List.mem_append_right _ (List.mem_append_right _ (List.mem_append_right _ (List.mem_append_right _ (List.mem_append_left _ (List.mem_of_getElem? (i := 31) rfl)))))))))))
theorem q432 : (.methodLink R_Pile 27 y_Pile_copy : Cond) ∈ TB := List.mem_append_right _ (List.mem_append_right _ (List.mem_append_right _ (List.mem_append_right _ (List.mem_append_right _ (List.mem_append_right _ (List.mem_append_right _ (List.mem_append_right _ (List.mem_append_right _ (List.mem_append_right _ (List.mem_append_left _ (List.mem_of_getElem? (i := 32) rfl)))))))))))
theorem q433 : (.static y_Pile_copy : Cond) ∈ TB := List.mem_append_right _ (List.mem_append_right _ (List.mem_append_right _ (List.mem_append_right _ (List.mem_append_right _ (List.mem_append_right _ (List.mem_append_right _ (List.mem_append_right _ (List.mem_append_right _ (List.mem_append_right _ (List.mem_append_left _ (List.mem_of_getElem? (i := 33) rfl)))))))))))
theorem q434 : (.code y_Pile_copy prog_6_method_6_code 2 none : Cond) ∈ TB := List.mem_append_right _ (List.mem_append_right _ (List.mem_append_right _ (List.mem_append_right _ (List.mem_append_right _ (List.mem_append_right _ (List.mem_append_right _ (List.mem_append_right _ (List.mem_append_right _ (List.mem_append_right _ (List.mem_append_left _ (List.mem_of_getElem? (i := 34) rfl)))))))))))
theorem q435 : (.methodLink R_Pile 31 y_Table_copyFrom : Cond) ∈ TB := List.mem_append_right _ (List.mem_append_right _ (List.mem_append_right _ (List.mem_append_right _ (List.mem_append_right _ (List.mem_append_right _ (List.mem_append_right _ (List.mem_append_right _ (List.mem_append_right _ (List.mem_append_right _ (List.mem_append_left _ (List.mem_of_getElem? (i := 35) rfl)))))))))))
theorem q436 : (.instanceMethod y_Table_copyFrom : Cond) ∈ TB := List.mem_append_right _ (List.mem_append_right _ (List.mem_append_right _ (List.mem_append_right _ (List.mem_append_right _ (List.mem_append_right _ (List.mem_append_right _ (List.mem_append_right _ (List.mem_append_right _ (List.mem_append_right _ (List.mem_append_left _ (List.mem_of_getElem? (i := 36) rfl)))))))))))
theorem q437 : (.selects R_Table y_Table_copyFrom y_Table_copyFrom : Cond) ∈ TB := List.mem_append_right _ (List.mem_append_right _ (List.mem_append_right _ (List.mem_append_right _ (List.mem_append_right _ (List.mem_append_right _ (List.mem_append_right _ (List.mem_append_right _ (List.mem_append_right _ (List.mem_append_right _ (List.mem_append_left _ (List.mem_of_getElem? (i := 37) rfl)))))))))))
theorem q438 : (.code y_Table_copyFrom prog_8_method_3_code 2 none : Cond) ∈ TB := List.mem_append_right _ (List.mem_append_right _ (List.mem_append_right _ (List.mem_append_right _ (List.mem_append_right _ (List.mem_append_right _ (List.mem_append_right _ (List.mem_append_right _ (List.mem_append_right _ (List.mem_append_right _ (List.mem_append_left _ (List.mem_of_getElem? (i := 38) rfl)))))))))))
theorem q439 : (.methodLink R_law 48 y_Nm_veto : Cond) ∈ TB := List.mem_append_right _ (List.mem_append_right _ (List.mem_append_right _ (List.mem_append_right _ (List.mem_append_right _ (List.mem_append_right _ (List.mem_append_right _ (List.mem_append_right _ (List.mem_append_right _ (List.mem_append_right _ (List.mem_append_left _ (List.mem_of_getElem? (i := 39) rfl)))))))))))
theorem q440 : (.instanceMethod y_Nm_veto : Cond) ∈ TB := List.mem_append_right _ (List.mem_append_right _ (List.mem_append_right _ (List.mem_append_right _ (List.mem_append_right _ (List.mem_append_right _ (List.mem_append_right _ (List.mem_append_right _ (List.mem_append_right _ (List.mem_append_right _ (List.mem_append_right _ (List.mem_append_left _ (List.mem_of_getElem? (i := 0) rfl))))))))))))
theorem q441 : (.selects R_Nm y_Nm_veto y_Nm_veto : Cond) ∈ TB := List.mem_append_right _ (List.mem_append_right _ (List.mem_append_right _ (List.mem_append_right _ (List.mem_append_right _ (List.mem_append_right _ (List.mem_append_right _ (List.mem_append_right _ (List.mem_append_right _ (List.mem_append_right _ (List.mem_append_right _ (List.mem_append_left _ (List.mem_of_getElem? (i := 1) rfl))))))))))))
theorem q442 : (.code y_Nm_veto prog_1_method_10_code 3 (some .int) : Cond) ∈ TB := List.mem_append_right _ (List.mem_append_right _ (List.mem_append_right _ (List.mem_append_right _ (List.mem_append_right _ (List.mem_append_right _ (List.mem_append_right _ (List.mem_append_right _ (List.mem_append_right _ (List.mem_append_right _ (List.mem_append_right _ (List.mem_append_left _ (List.mem_of_getElem? (i := 2) rfl))))))))))))
theorem q443 : (.methodLink R_Nm 152 y_Nm_dishesLeft : Cond) ∈ TB := List.mem_append_right _ (List.mem_append_right _ (List.mem_append_right _ (List.mem_append_right _ (List.mem_append_right _ (List.mem_append_right _ (List.mem_append_right _ (List.mem_append_right _ (List.mem_append_right _ (List.mem_append_right _ (List.mem_append_right _ (List.mem_append_left _ (List.mem_of_getElem? (i := 3) rfl))))))))))))
theorem q444 : (.instanceMethod y_Nm_dishesLeft : Cond) ∈ TB := List.mem_append_right _ (List.mem_append_right _ (List.mem_append_right _ (List.mem_append_right _ (List.mem_append_right _ (List.mem_append_right _ (List.mem_append_right _ (List.mem_append_right _ (List.mem_append_right _ (List.mem_append_right _ (List.mem_append_right _ (List.mem_append_left _ (List.mem_of_getElem? (i := 4) rfl))))))))))))
theorem q445 : (.code y_Nm_dishesLeft prog_1_method_37_code 2 (some .int) : Cond) ∈ TB := List.mem_append_right _ (List.mem_append_right _ (List.mem_append_right _ (List.mem_append_right _ (List.mem_append_right _ (List.mem_append_right _ (List.mem_append_right _ (List.mem_append_right _ (List.mem_append_right _ (List.mem_append_right _ (List.mem_append_right _ (List.mem_append_left _ (List.mem_of_getElem? (i := 5) rfl))))))))))))
theorem q446 : (.methodLink R_Nm 235 y_Int_bitCount_0f7a4 : Cond) ∈ TB := List.mem_append_right _ (List.mem_append_right _ (List.mem_append_right _ (List.mem_append_right _ (List.mem_append_right _ (List.mem_append_right _ (List.mem_append_right _ (List.mem_append_right _ (List.mem_append_right _ (List.mem_append_right _ (List.mem_append_right _ (List.mem_append_left _ (List.mem_of_getElem? (i := 6) rfl))))))))))))
theorem q447 : (.static y_Int_bitCount_0f7a4 : Cond) ∈ TB := List.mem_append_right _ (List.mem_append_right _ (List.mem_append_right _ (List.mem_append_right _ (List.mem_append_right _ (List.mem_append_right _ (List.mem_append_right _ (List.mem_append_right _ (List.mem_append_right _ (List.mem_append_right _ (List.mem_append_right _ (List.mem_append_left _ (List.mem_of_getElem? (i := 7) rfl))))))))))))
theorem q448 : (.code y_Int_bitCount_0f7a4 prog_11_method_49_code 1 (some .int) : Cond) ∈ TB := List.mem_append_right _ (List.mem_append_right _ (List.mem_append_right _ (List.mem_append_right _ (List.mem_append_right _ (List.mem_append_right _ (List.mem_append_right _ (List.mem_append_right _ (List.mem_append_right _ (List.mem_append_right _ (List.mem_append_right _ (List.mem_append_left _ (List.mem_of_getElem? (i := 8) rfl))))))))))))
theorem q449 : (.constant R_Int 265 (1431655765) : Cond) ∈ TB := List.mem_append_right _ (List.mem_append_right _ (List.mem_append_right _ (List.mem_append_right _ (List.mem_append_right _ (List.mem_append_right _ (List.mem_append_right _ (List.mem_append_right _ (List.mem_append_right _ (List.mem_append_right _ (List.mem_append_right _ (List.mem_append_left _ (List.mem_of_getElem? (i := 9) rfl))))))))))))
theorem q450 : (.constant R_Int 266 (858993459) : Cond) ∈ TB := List.mem_append_right _ (List.mem_append_right _ (List.mem_append_right _ (List.mem_append_right _ (List.mem_append_right _ (List.mem_append_right _ (List.mem_append_right _ (List.mem_append_right _ (List.mem_append_right _ (List.mem_append_right _ (List.mem_append_right _ (List.mem_append_left _ (List.mem_of_getElem? (i := 10) rfl))))))))))))
theorem q451 : (.constant R_Int 267 (252645135) : Cond) ∈ TB := List.mem_append_right _ (List.mem_append_right _ (List.mem_append_right _ (List.mem_append_right _ (List.mem_append_right _ (List.mem_append_right _ (List.mem_append_right _ (List.mem_append_right _ (List.mem_append_right _ (List.mem_append_right _ (List.mem_append_right _ (List.mem_append_left _ (List.mem_of_getElem? (i := 11) rfl))))))))))))
theorem q452 : (.methodLink R_Nm 156 y_Table_strike : Cond) ∈ TB := List.mem_append_right _ (List.mem_append_right _ (List.mem_append_right _ (List.mem_append_right _ (List.mem_append_right _ (List.mem_append_right _ (List.mem_append_right _ (List.mem_append_right _ (List.mem_append_right _ (List.mem_append_right _ (List.mem_append_right _ (List.mem_append_left _ (List.mem_of_getElem? (i := 12) rfl))))))))))))
theorem q453 : (.instanceMethod y_Table_strike : Cond) ∈ TB := List.mem_append_right _ (List.mem_append_right _ (List.mem_append_right _ (List.mem_append_right _ (List.mem_append_right _ (List.mem_append_right _ (List.mem_append_right _ (List.mem_append_right _ (List.mem_append_right _ (List.mem_append_right _ (List.mem_append_right _ (List.mem_append_left _ (List.mem_of_getElem? (i := 13) rfl))))))))))))
theorem q454 : (.selects R_Table y_Table_strike y_Table_strike : Cond) ∈ TB := List.mem_append_right _ (List.mem_append_right _ (List.mem_append_right _ (List.mem_append_right _ (List.mem_append_right _ (List.mem_append_right _ (List.mem_append_right _ (List.mem_append_right _ (List.mem_append_right _ (List.mem_append_right _ (List.mem_append_right _ (List.mem_append_left _ (List.mem_of_getElem? (i := 14) rfl))))))))))))
theorem q455 : (.code y_Table_strike prog_8_method_7_code 3 none : Cond) ∈ TB := List.mem_append_right _ (List.mem_append_right _ (List.mem_append_right _ (List.mem_append_right _ (List.mem_append_right _ (List.mem_append_right _ (List.mem_append_right _ (List.mem_append_right _ (List.mem_append_right _ (List.mem_append_right _ (List.mem_append_right _ (List.mem_append_left _ (List.mem_of_getElem? (i := 15) rfl))))))))))))
theorem q456 : (.methodLink R_law 52 y_Nm_order : Cond) ∈ TB := List.mem_append_right _ (List.mem_append_right _ (List.mem_append_right _ (List.mem_append_right _ (List.mem_append_right _ (List.mem_append_right _ (List.mem_append_right _ (List.mem_append_right _ (List.mem_append_right _ (List.mem_append_right _ (List.mem_append_right _ (List.mem_append_left _ (List.mem_of_getElem? (i := 16) rfl))))))))))))
theorem q457 : (.instanceMethod y_Nm_order : Cond) ∈ TB := List.mem_append_right _ (List.mem_append_right _ (List.mem_append_right _ (List.mem_append_right _ (List.mem_append_right _ (List.mem_append_right _ (List.mem_append_right _ (List.mem_append_right _ (List.mem_append_right _ (List.mem_append_right _ (List.mem_append_right _ (List.mem_append_left _ (List.mem_of_getElem? (i := 17) rfl))))))))))))
theorem q458 : (.selects R_Nm y_Nm_order y_Nm_order : Cond) ∈ TB := List.mem_append_right _ (List.mem_append_right _ (List.mem_append_right _ (List.mem_append_right _ (List.mem_append_right _ (List.mem_append_right _ (List.mem_append_right _ (List.mem_append_right _ (List.mem_append_right _ (List.mem_append_right _ (List.mem_append_right _ (List.mem_append_left _ (List.mem_of_getElem? (i := 18) rfl))))))))))))
theorem q459 : (.code y_Nm_order prog_1_method_11_code 2 (some .int) : Cond) ∈ TB := List.mem_append_right _ (List.mem_append_right _ (List.mem_append_right _ (List.mem_append_right _ (List.mem_append_right _ (List.mem_append_right _ (List.mem_append_right _ (List.mem_append_right _ (List.mem_append_right _ (List.mem_append_right _ (List.mem_append_right _ (List.mem_append_left _ (List.mem_of_getElem? (i := 19) rfl))))))))))))
theorem q460 : (.methodLink R_Nm 160 y_Menu_isInTime : Cond) ∈ TB := List.mem_append_right _ (List.mem_append_right _ (List.mem_append_right _ (List.mem_append_right _ (List.mem_append_right _ (List.mem_append_right _ (List.mem_append_right _ (List.mem_append_right _ (List.mem_append_right _ (List.mem_append_right _ (List.mem_append_right _ (List.mem_append_left _ (List.mem_of_getElem? (i := 20) rfl))))))))))))
theorem q461 : (.instanceMethod y_Menu_isInTime : Cond) ∈ TB := List.mem_append_right _ (List.mem_append_right _ (List.mem_append_right _ (List.mem_append_right _ (List.mem_append_right _ (List.mem_append_right _ (List.mem_append_right _ (List.mem_append_right _ (List.mem_append_right _ (List.mem_append_right _ (List.mem_append_right _ (List.mem_append_left _ (List.mem_of_getElem? (i := 21) rfl))))))))))))
theorem q462 : (.selects R_Menu y_Menu_isInTime y_Menu_isInTime : Cond) ∈ TB := List.mem_append_right _ (List.mem_append_right _ (List.mem_append_right _ (List.mem_append_right _ (List.mem_append_right _ (List.mem_append_right _ (List.mem_append_right _ (List.mem_append_right _ (List.mem_append_right _ (List.mem_append_right _ (List.mem_append_right _ (List.mem_append_left _ (List.mem_of_getElem? (i := 22) rfl))))))))))))
theorem q463 : (.code y_Menu_isInTime prog_2_method_8_code 3 (some .boolean) : Cond) ∈ TB := List.mem_append_right _ (List.mem_append_right _ (List.mem_append_right _ (List.mem_append_right _ (List.mem_append_right _ (List.mem_append_right _ (List.mem_append_right _ (List.mem_append_right _ (List.mem_append_right _ (List.mem_append_right _ (List.mem_append_right _ (List.mem_append_left _ (List.mem_of_getElem? (i := 23) rfl))))))))))))
theorem q464 : (.methodLink R_Menu 45 y_Menu_minutesOf : Cond) ∈ TB := List.mem_append_right _ (List.mem_append_right _ (List.mem_append_right _ (List.mem_append_right _ (List.mem_append_right _ (List.mem_append_right _ (List.mem_append_right _ (List.mem_append_right _ (List.mem_append_right _ (List.mem_append_right _ (List.mem_append_right _ (List.mem_append_left _ (List.mem_of_getElem? (i := 24) rfl))))))))))))
theorem q465 : (.methodLink R_law 56 y_Nm_undo : Cond) ∈ TB := List.mem_append_right _ (List.mem_append_right _ (List.mem_append_right _ (List.mem_append_right _ (List.mem_append_right _ (List.mem_append_right _ (List.mem_append_right _ (List.mem_append_right _ (List.mem_append_right _ (List.mem_append_right _ (List.mem_append_right _ (List.mem_append_left _ (List.mem_of_getElem? (i := 25) rfl))))))))))))
theorem q466 : (.instanceMethod y_Nm_undo : Cond) ∈ TB := List.mem_append_right _ (List.mem_append_right _ (List.mem_append_right _ (List.mem_append_right _ (List.mem_append_right _ (List.mem_append_right _ (List.mem_append_right _ (List.mem_append_right _ (List.mem_append_right _ (List.mem_append_right _ (List.mem_append_right _ (List.mem_append_left _ (List.mem_of_getElem? (i := 26) rfl))))))))))))
theorem q467 : (.selects R_Nm y_Nm_undo y_Nm_undo : Cond) ∈ TB := List.mem_append_right _ (List.mem_append_right _ (List.mem_append_right _ (List.mem_append_right _ (List.mem_append_right _ (List.mem_append_right _ (List.mem_append_right _ (List.mem_append_right _ (List.mem_append_right _ (List.mem_append_right _ (List.mem_append_right _ (List.mem_append_left _ (List.mem_of_getElem? (i := 27) rfl))))))))))))
theorem q468 : (.code y_Nm_undo prog_1_method_12_code 1 (some .int) : Cond) ∈ TB := List.mem_append_right _ (List.mem_append_right _ (List.mem_append_right _ (List.mem_append_right _ (List.mem_append_right _ (List.mem_append_right _ (List.mem_append_right _ (List.mem_append_right _ (List.mem_append_right _ (List.mem_append_right _ (List.mem_append_right _ (List.mem_append_left _ (List.mem_of_getElem? (i := 28) rfl))))))))))))
theorem q469 : (.methodLink R_Nm 167 y_Pile_popInto : Cond) ∈ TB := List.mem_append_right _ (List.mem_append_right _ (List.mem_append_right _ (List.mem_append_right _ (List.mem_append_right _ (List.mem_append_right _ (List.mem_append_right _ (List.mem_append_right _ (List.mem_append_right _ (List.mem_append_right _ (List.mem_append_right _ (List.mem_append_left _ (List.mem_of_getElem? (i := 29) rfl))))))))))))
theorem q470 : (.instanceMethod y_Pile_popInto : Cond) ∈ TB := List.mem_append_right _ (List.mem_append_right _ (List.mem_append_right _ (List.mem_append_right _ (List.mem_append_right _ (List.mem_append_right _ (List.mem_append_right _ (List.mem_append_right _ (List.mem_append_right _ (List.mem_append_right _ (List.mem_append_right _ (List.mem_append_left _ (List.mem_of_getElem? (i := 30) rfl))))))))))))
theorem q471 : (.selects R_Pile y_Pile_popInto y_Pile_popInto : Cond) ∈ TB := List.mem_append_right _ (List.mem_append_right _ (List.mem_append_right _ (List.mem_append_right _ (List.mem_append_right _ (List.mem_append_right _ (List.mem_append_right _ (List.mem_append_right _ (List.mem_append_right _ (List.mem_append_right _ (List.mem_append_right _ (List.mem_append_left _ (List.mem_of_getElem? (i := 31) rfl))))))))))))
theorem q472 : (.code y_Pile_popInto prog_6_method_3_code 2 (some .boolean) : Cond) ∈ TB := List.mem_append_right _ (List.mem_append_right _ (List.mem_append_right _ (List.mem_append_right _ (List.mem_append_right _ (List.mem_append_right _ (List.mem_append_right _ (List.mem_append_right _ (List.mem_append_right _ (List.mem_append_right _ (List.mem_append_right _ (List.mem_append_left _ (List.mem_of_getElem? (i := 32) rfl))))))))))))
theorem q473 : (.methodLink R_law 60 y_Nm_most : Cond) ∈ TB := List.mem_append_right _ (List.mem_append_right _ (List.mem_append_right _ (List.mem_append_right _ (List.mem_append_right _ (List.mem_append_right _ (List.mem_append_right _ (List.mem_append_right _ (List.mem_append_right _ (List.mem_append_right _ (List.mem_append_right _ (List.mem_append_left _ (List.mem_of_getElem? (i := 33) rfl))))))))))))
theorem q474 : (.instanceMethod y_Nm_most : Cond) ∈ TB := List.mem_append_right _ (List.mem_append_right _ (List.mem_append_right _ (List.mem_append_right _ (List.mem_append_right _ (List.mem_append_right _ (List.mem_append_right _ (List.mem_append_right _ (List.mem_append_right _ (List.mem_append_right _ (List.mem_append_right _ (List.mem_append_left _ (List.mem_of_getElem? (i := 34) rfl))))))))))))
theorem q475 : (.selects R_Nm y_Nm_most y_Nm_most : Cond) ∈ TB := List.mem_append_right _ (List.mem_append_right _ (List.mem_append_right _ (List.mem_append_right _ (List.mem_append_right _ (List.mem_append_right _ (List.mem_append_right _ (List.mem_append_right _ (List.mem_append_right _ (List.mem_append_right _ (List.mem_append_right _ (List.mem_append_left _ (List.mem_of_getElem? (i := 35) rfl))))))))))))
theorem q476 : (.code y_Nm_most prog_1_method_13_code 4 (some .int) : Cond) ∈ TB := List.mem_append_right _ (List.mem_append_right _ (List.mem_append_right _ (List.mem_append_right _ (List.mem_append_right _ (List.mem_append_right _ (List.mem_append_right _ (List.mem_append_right _ (List.mem_append_right _ (List.mem_append_right _ (List.mem_append_right _ (List.mem_append_left _ (List.mem_of_getElem? (i := 36) rfl))))))))))))
theorem q477 : (.methodLink R_Nm 171 y_Moment_mostDish : Cond) ∈ TB := List.mem_append_right _ (List.mem_append_right _ (List.mem_append_right _ (List.mem_append_right _ (List.mem_append_right _ (List.mem_append_right _ (List.mem_append_right _ (List.mem_append_right _ (List.mem_append_right _ (List.mem_append_right _ (List.mem_append_right _ (List.mem_append_left _ (List.mem_of_getElem? (i := 37) rfl))))))))))))
theorem q478 : (.instanceMethod y_Moment_mostDish : Cond) ∈ TB := List.mem_append_right _ (List.mem_append_right _ (List.mem_append_right _ (List.mem_append_right _ (List.mem_append_right _ (List.mem_append_right _ (List.mem_append_right _ (List.mem_append_right _ (List.mem_append_right _ (List.mem_append_right _ (List.mem_append_right _ (List.mem_append_left _ (List.mem_of_getElem? (i := 38) rfl))))))))))))
theorem q479 : (.selects R_Moment y_Moment_mostDish y_Moment_mostDish : Cond) ∈ TB := List.mem_append_right _ (List.mem_append_right _ (List.mem_append_right _ (List.mem_append_right _ (List.mem_append_right _ (List.mem_append_right _ (List.mem_append_right _ (List.mem_append_right _ (List.mem_append_right _ (List.mem_append_right _ (List.mem_append_right _ (List.mem_append_left _ (List.mem_of_getElem? (i := 39) rfl))))))))))))
theorem q480 : (.code y_Moment_mostDish prog_3_method_11_code 4 (some .int) : Cond) ∈ TB := List.mem_append_right _ (List.mem_append_right _ (List.mem_append_right _ (List.mem_append_right _ (List.mem_append_right _ (List.mem_append_right _ (List.mem_append_right _ (List.mem_append_right _ (List.mem_append_right _ (List.mem_append_right _ (List.mem_append_right _ (List.mem_append_right _ (List.mem_append_left _ (List.mem_of_getElem? (i := 0) rfl)))))))))))))
theorem q481 : (.methodLink R_Moment 60 y_Moment_together : Cond) ∈ TB := List.mem_append_right _ (List.mem_append_right _ (List.mem_append_right _ (List.mem_append_right _ (List.mem_append_right _ (List.mem_append_right _ (List.mem_append_right _ (List.mem_append_right _ (List.mem_append_right _ (List.mem_append_right _ (List.mem_append_right _ (List.mem_append_right _ (List.mem_append_left _ (List.mem_of_getElem? (i := 1) rfl)))))))))))))
theorem q482 : (.methodLink R_law 64 y_Nm_fair : Cond) ∈ TB := List.mem_append_right _ (List.mem_append_right _ (List.mem_append_right _ (List.mem_append_right _ (List.mem_append_right _ (List.mem_append_right _ (List.mem_append_right _ (List.mem_append_right _ (List.mem_append_right _ (List.mem_append_right _ (List.mem_append_right _ (List.mem_append_right _ (List.mem_append_left _ (List.mem_of_getElem? (i := 2) rfl)))))))))))))
theorem q483 : (.instanceMethod y_Nm_fair : Cond) ∈ TB := List.mem_append_right _ (List.mem_append_right _ (List.mem_append_right _ (List.mem_append_right _ (List.mem_append_right _ (List.mem_append_right _ (List.mem_append_right _ (List.mem_append_right _ (List.mem_append_right _ (List.mem_append_right _ (List.mem_append_right _ (List.mem_append_right _ (List.mem_append_left _ (List.mem_of_getElem? (i := 3) rfl)))))))))))))
theorem q484 : (.selects R_Nm y_Nm_fair y_Nm_fair : Cond) ∈ TB := List.mem_append_right _ (List.mem_append_right _ (List.mem_append_right _ (List.mem_append_right _ (List.mem_append_right _ (List.mem_append_right _ (List.mem_append_right _ (List.mem_append_right _ (List.mem_append_right _ (List.mem_append_right _ (List.mem_append_right _ (List.mem_append_right _ (List.mem_append_left _ (List.mem_of_getElem? (i := 4) rfl)))))))))))))
theorem q485 : (.code y_Nm_fair prog_1_method_14_code 4 (some .int) : Cond) ∈ TB := List.mem_append_right _ (List.mem_append_right _ (List.mem_append_right _ (List.mem_append_right _ (List.mem_append_right _ (List.mem_append_right _ (List.mem_append_right _ (List.mem_append_right _ (List.mem_append_right _ (List.mem_append_right _ (List.mem_append_right _ (List.mem_append_right _ (List.mem_append_left _ (List.mem_of_getElem? (i := 5) rfl)))))))))))))
theorem q486 : (.methodLink R_Nm 174 y_Moment_fairDish : Cond) ∈ TB := List.mem_append_right _ (List.mem_append_right _ (List.mem_append_right _ (List.mem_append_right _ (List.mem_append_right _ (List.mem_append_right _ (List.mem_append_right _ (List.mem_append_right _ (List.mem_append_right _ (List.mem_append_right _ (List.mem_append_right _ (List.mem_append_right _ (List.mem_append_left _ (List.mem_of_getElem? (i := 6) rfl)))))))))))))
theorem q487 : (.instanceMethod y_Moment_fairDish : Cond) ∈ TB := List.mem_append_right _ (List.mem_append_right _ (List.mem_append_right _ (List.mem_append_right _ (List.mem_append_right _ (List.mem_append_right _ (List.mem_append_right _ (List.mem_append_right _ (List.mem_append_right _ (List.mem_append_right _ (List.mem_append_right _ (List.mem_append_right _ (List.mem_append_left _ (List.mem_of_getElem? (i := 7) rfl)))))))))))))
theorem q488 : (.selects R_Moment y_Moment_fairDish y_Moment_fairDish : Cond) ∈ TB := List.mem_append_right _ (List.mem_append_right _ (List.mem_append_right _ (List.mem_append_right _ (List.mem_append_right _ (List.mem_append_right _ (List.mem_append_right _ (List.mem_append_right _ (List.mem_append_right _ (List.mem_append_right _ (List.mem_append_right _ (List.mem_append_right _ (List.mem_append_left _ (List.mem_of_getElem? (i := 8) rfl)))))))))))))
theorem q489 : (.code y_Moment_fairDish prog_3_method_12_code 4 (some .int) : Cond) ∈ TB := List.mem_append_right _ (List.mem_append_right _ (List.mem_append_right _ (List.mem_append_right _ (List.mem_append_right _ (List.mem_append_right _ (List.mem_append_right _ (List.mem_append_right _ (List.mem_append_right _ (List.mem_append_right _ (List.mem_append_right _ (List.mem_append_right _ (List.mem_append_left _ (List.mem_of_getElem? (i := 9) rfl)))))))))))))
theorem q490 : (.methodLink R_Moment 63 y_Moment_fairRank : Cond) ∈ TB := List.mem_append_right _ (List.mem_append_right _ (List.mem_append_right _ (List.mem_append_right _ (List.mem_append_right _ (List.mem_append_right _ (List.mem_append_right _ (List.mem_append_right _ (List.mem_append_right _ (List.mem_append_right _ (List.mem_append_right _ (List.mem_append_right _ (List.mem_append_left _ (List.mem_of_getElem? (i := 10) rfl)))))))))))))
theorem q491 : (.instanceMethod y_Moment_fairRank : Cond) ∈ TB := List.mem_append_right _ (List.mem_append_right _ (List.mem_append_right _ (List.mem_append_right _ (List.mem_append_right _ (List.mem_append_right _ (List.mem_append_right _ (List.mem_append_right _ (List.mem_append_right _ (List.mem_append_right _ (List.mem_append_right _ (List.mem_append_right _ (List.mem_append_left _ (List.mem_of_getElem? (i := 11) rfl)))))))))))))
theorem q492 : (.code y_Moment_fairRank prog_3_method_13_code 2 (some .int) : Cond) ∈ TB := List.mem_append_right _ (List.mem_append_right _ (List.mem_append_right _ (List.mem_append_right _ (List.mem_append_right _ (List.mem_append_right _ (List.mem_append_right _ (List.mem_append_right _ (List.mem_append_right _ (List.mem_append_right _ (List.mem_append_right _ (List.mem_append_right _ (List.mem_append_left _ (List.mem_of_getElem? (i := 12) rfl)))))))))))))
theorem q493 : (.methodLink R_Moment 66 y_Moment_leastWorth : Cond) ∈ TB := List.mem_append_right _ (List.mem_append_right _ (List.mem_append_right _ (List.mem_append_right _ (List.mem_append_right _ (List.mem_append_right _ (List.mem_append_right _ (List.mem_append_right _ (List.mem_append_right _ (List.mem_append_right _ (List.mem_append_right _ (List.mem_append_right _ (List.mem_append_left _ (List.mem_of_getElem? (i := 13) rfl)))))))))))))
theorem q494 : (.instanceMethod y_Moment_leastWorth : Cond) ∈ TB := List.mem_append_right _ (List.mem_append_right _ (List.mem_append_right _ (List.mem_append_right _ (List.mem_append_right _ (List.mem_append_right _ (List.mem_append_right _ (List.mem_append_right _ (List.mem_append_right _ (List.mem_append_right _ (List.mem_append_right _ (List.mem_append_right _ (List.mem_append_left _ (List.mem_of_getElem? (i := 14) rfl)))))))))))))
theorem q495 : (.selects R_Moment y_Moment_leastWorth y_Moment_leastWorth : Cond) ∈ TB := List.mem_append_right _ (List.mem_append_right _ (List.mem_append_right _ (List.mem_append_right _ (List.mem_append_right _ (List.mem_append_right _ (List.mem_append_right _ (List.mem_append_right _ (List.mem_append_right _ (List.mem_append_right _ (List.mem_append_right _ (List.mem_append_right _ (List.mem_append_left _ (List.mem_of_getElem? (i := 15) rfl)))))))))))))
theorem q496 : (.code y_Moment_leastWorth prog_3_method_4_code 4 (some .int) : Cond) ∈ TB := List.mem_append_right _ (List.mem_append_right _ (List.mem_append_right _ (List.mem_append_right _ (List.mem_append_right _ (List.mem_append_right _ (List.mem_append_right _ (List.mem_append_right _ (List.mem_append_right _ (List.mem_append_right _ (List.mem_append_right _ (List.mem_append_right _ (List.mem_append_left _ (List.mem_of_getElem? (i := 16) rfl)))))))))))))
theorem q497 : (.methodLink R_Nm 177 y_Moment_leastWorth : Cond) ∈ TB := List.mem_append_right _ (List.mem_append_right _ (List.mem_append_right _ (List.mem_append_right _ (List.mem_append_right _ (List.mem_append_right _ (List.mem_append_right _ (List.mem_append_right _ (List.mem_append_right _ (List.mem_append_right _ (List.mem_append_right _ (List.mem_append_right _ (List.mem_append_left _ (List.mem_of_getElem? (i := 17) rfl)))))))))))))
theorem q498 : (.methodLink R_law 68 y_Nm_beats : Cond) ∈ TB := List.mem_append_right _ (List.mem_append_right _ (List.mem_append_right _ (List.mem_append_right _ (List.mem_append_right _ (List.mem_append_right _ (List.mem_append_right _ (List.mem_append_right _ (List.mem_append_right _ (List.mem_append_right _ (List.mem_append_right _ (List.mem_append_right _ (List.mem_append_left _ (List.mem_of_getElem? (i := 18) rfl)))))))))))))
theorem q499 : (.instanceMethod y_Nm_beats : Cond) ∈ TB := List.mem_append_right _ (List.mem_append_right _ (List.mem_append_right _ (List.mem_append_right _ (List.mem_append_right _ (List.mem_append_right _ (List.mem_append_right _ (List.mem_append_right _ (List.mem_append_right _ (List.mem_append_right _ (List.mem_append_right _ (List.mem_append_right _ (List.mem_append_left _ (List.mem_of_getElem? (i := 19) rfl)))))))))))))
theorem q500 : (.selects R_Nm y_Nm_beats y_Nm_beats : Cond) ∈ TB := List.mem_append_right _ (List.mem_append_right _ (List.mem_append_right _ (List.mem_append_right _ (List.mem_append_right _ (List.mem_append_right _ (List.mem_append_right _ (List.mem_append_right _ (List.mem_append_right _ (List.mem_append_right _ (List.mem_append_right _ (List.mem_append_right _ (List.mem_append_left _ (List.mem_of_getElem? (i := 20) rfl)))))))))))))
theorem q501 : (.code y_Nm_beats prog_1_method_15_code 3 (some .int) : Cond) ∈ TB := List.mem_append_right _ (List.mem_append_right _ (List.mem_append_right _ (List.mem_append_right _ (List.mem_append_right _ (List.mem_append_right _ (List.mem_append_right _ (List.mem_append_right _ (List.mem_append_right _ (List.mem_append_right _ (List.mem_append_right _ (List.mem_append_right _ (List.mem_append_left _ (List.mem_of_getElem? (i := 21) rfl)))))))))))))
theorem q502 : (.methodLink R_Nm 180 y_Nm_isOnOffer : Cond) ∈ TB := List.mem_append_right _ (List.mem_append_right _ (List.mem_append_right _ (List.mem_append_right _ (List.mem_append_right _ (List.mem_append_right _ (List.mem_append_right _ (List.mem_append_right _ (List.mem_append_right _ (List.mem_append_right _ (List.mem_append_right _ (List.mem_append_right _ (List.mem_append_left _ (List.mem_of_getElem? (i := 22) rfl)))))))))))))
theorem q503 : (.instanceMethod y_Nm_isOnOffer : Cond) ∈ TB := List.mem_append_right _ (List.mem_append_right _ (List.mem_append_right _ (List.mem_append_right _ (List.mem_append_right _ (List.mem_append_right _ (List.mem_append_right _ (List.mem_append_right _ (List.mem_append_right _ (List.mem_append_right _ (List.mem_append_right _ (List.mem_append_right _ (List.mem_append_left _ (List.mem_of_getElem? (i := 23) rfl)))))))))))))
theorem q504 : (.code y_Nm_isOnOffer prog_1_method_35_code 2 (some .boolean) : Cond) ∈ TB := List.mem_append_right _ (List.mem_append_right _ (List.mem_append_right _ (List.mem_append_right _ (List.mem_append_right _ (List.mem_append_right _ (List.mem_append_right _ (List.mem_append_right _ (List.mem_append_right _ (List.mem_append_right _ (List.mem_append_right _ (List.mem_append_right _ (List.mem_append_left _ (List.mem_of_getElem? (i := 24) rfl)))))))))))))
theorem q505 : (.methodLink R_Nm 183 y_Moment_lead : Cond) ∈ TB := List.mem_append_right _ (List.mem_append_right _ (List.mem_append_right _ (List.mem_append_right _ (List.mem_append_right _ (List.mem_append_right _ (List.mem_append_right _ (List.mem_append_right _ (List.mem_append_right _ (List.mem_append_right _ (List.mem_append_right _ (List.mem_append_right _ (List.mem_append_left _ (List.mem_of_getElem? (i := 25) rfl)))))))))))))
theorem q506 : (.instanceMethod y_Moment_lead : Cond) ∈ TB := List.mem_append_right _ (List.mem_append_right _ (List.mem_append_right _ (List.mem_append_right _ (List.mem_append_right _ (List.mem_append_right _ (List.mem_append_right _ (List.mem_append_right _ (List.mem_append_right _ (List.mem_append_right _ (List.mem_append_right _ (List.mem_append_right _ (List.mem_append_left _ (List.mem_of_getElem? (i := 26) rfl)))))))))))))
theorem q507 : (.selects R_Moment y_Moment_lead y_Moment_lead : Cond) ∈ TB := List.mem_append_right _ (List.mem_append_right _ (List.mem_append_right _ (List.mem_append_right _ (List.mem_append_right _ (List.mem_append_right _ (List.mem_append_right _ (List.mem_append_right _ (List.mem_append_right _ (List.mem_append_right _ (List.mem_append_right _ (List.mem_append_right _ (List.mem_append_left _ (List.mem_of_getElem? (i := 27) rfl)))))))))))))
theorem q508 : (.code y_Moment_lead prog_3_method_14_code 5 (some .int) : Cond) ∈ TB := List.mem_append_right _ (List.mem_append_right _ (List.mem_append_right _ (List.mem_append_right _ (List.mem_append_right _ (List.mem_append_right _ (List.mem_append_right _ (List.mem_append_right _ (List.mem_append_right _ (List.mem_append_right _ (List.mem_append_right _ (List.mem_append_right _ (List.mem_append_left _ (List.mem_of_getElem? (i := 28) rfl)))))))))))))
theorem q509 : (.methodLink R_Moment 69 y_Int_compare_7cf53 : Cond) ∈ TB := List.mem_append_right _ (List.mem_append_right _ (List.mem_append_right _ (List.mem_append_right _ (List.mem_append_right _ (List.mem_append_right _ (List.mem_append_right _ (List.mem_append_right _ (List.mem_append_right _ (List.mem_append_right _ (List.mem_append_right _ (List.mem_append_right _ (List.mem_append_left _ (List.mem_of_getElem? (i := 29) rfl)))))))))))))
theorem q510 : (.static y_Int_compare_7cf53 : Cond) ∈ TB := List.mem_append_right _ (List.mem_append_right _ (List.mem_append_right _ (List.mem_append_right _ (List.mem_append_right _ (List.mem_append_right _ (List.mem_append_right _ (List.mem_append_right _ (List.mem_append_right _ (List.mem_append_right _ (List.mem_append_right _ (List.mem_append_right _ (List.mem_append_left _ (List.mem_of_getElem? (i := 30) rfl)))))))))))))
theorem q511 : (.code y_Int_compare_7cf53 prog_11_method_40_code 2 (some .int) : Cond) ∈ TB := List.mem_append_right _ (List.mem_append_right _ (List.mem_append_right _ (List.mem_append_right _ (List.mem_append_right _ (List.mem_append_right _ (List.mem_append_right _ (List.mem_append_right _ (List.mem_append_right _ (List.mem_append_right _ (List.mem_append_right _ (List.mem_append_right _ (List.mem_append_left _ (List.mem_of_getElem? (i := 31) rfl)))))))))))))
theorem q512 : (.methodLink R_law 72 y_Nm_champion : Cond) ∈ TB := List.mem_append_right _ (List.mem_append_right _ (List.mem_append_right _ (List.mem_append_right _ (List.mem_append_right _ (List.mem_append_right _ (List.mem_append_right _ (List.mem_append_right _ (List.mem_append_right _ (List.mem_append_right _ (List.mem_append_right _ (List.mem_append_right _ (List.mem_append_left _ (List.mem_of_getElem? (i := 32) rfl)))))))))))))
theorem q513 : (.instanceMethod y_Nm_champion : Cond) ∈ TB := List.mem_append_right _ (List.mem_append_right _ (List.mem_append_right _ (List.mem_append_right _ (List.mem_append_right _ (List.mem_append_right _ (List.mem_append_right _ (List.mem_append_right _ (List.mem_append_right _ (List.mem_append_right _ (List.mem_append_right _ (List.mem_append_right _ (List.mem_append_left _ (List.mem_of_getElem? (i := 33) rfl)))))))))))))
theorem q514 : (.selects R_Nm y_Nm_champion y_Nm_champion : Cond) ∈ TB := List.mem_append_right _ (List.mem_append_right _ (List.mem_append_right _ (List.mem_append_right _ (List.mem_append_right _ (List.mem_append_right _ (List.mem_append_right _ (List.mem_append_right _ (List.mem_append_right _ (List.mem_append_right _ (List.mem_append_right _ (List.mem_append_right _ (List.mem_append_left _ (List.mem_of_getElem? (i := 34) rfl)))))))))))))
theorem q515 : (.code y_Nm_champion prog_1_method_16_code 1 (some .int) : Cond) ∈ TB := List.mem_append_right _ (List.mem_append_right _ (List.mem_append_right _ (List.mem_append_right _ (List.mem_append_right _ (List.mem_append_right _ (List.mem_append_right _ (List.mem_append_right _ (List.mem_append_right _ (List.mem_append_right _ (List.mem_append_right _ (List.mem_append_right _ (List.mem_append_left _ (List.mem_of_getElem? (i := 35) rfl)))))))))))))
theorem q516 : (.methodLink R_Nm 186 y_Moment_winner : Cond) ∈ TB := List.mem_append_right _ (List.mem_append_right _ (List.mem_append_right _ (List.mem_append_right _ (List.mem_append_right _ (List.mem_append_right _ (List.mem_append_right _ (List.mem_append_right _ (List.mem_append_right _ (List.mem_append_right _ (List.mem_append_right _ (List.mem_append_right _ (List.mem_append_left _ (List.mem_of_getElem? (i := 36) rfl)))))))))))))
theorem q517 : (.instanceMethod y_Moment_winner : Cond) ∈ TB := List.mem_append_right _ (List.mem_append_right _ (List.mem_append_right _ (List.mem_append_right _ (List.mem_append_right _ (List.mem_append_right _ (List.mem_append_right _ (List.mem_append_right _ (List.mem_append_right _ (List.mem_append_right _ (List.mem_append_right _ (List.mem_append_right _ (List.mem_append_left _ (List.mem_of_getElem? (i := 37) rfl)))))))))))))
theorem q518 : (.selects R_Moment y_Moment_winner y_Moment_winner : Cond) ∈ TB := List.mem_append_right _ (List.mem_append_right _ (List.mem_append_right _ (List.mem_append_right _ (List.mem_append_right _ (List.mem_append_right _ (List.mem_append_right _ (List.mem_append_right _ (List.mem_append_right _ (List.mem_append_right _ (List.mem_append_right _ (List.mem_append_right _ (List.mem_append_left _ (List.mem_of_getElem? (i := 38) rfl)))))))))))))
theorem q519 : (.code y_Moment_winner prog_3_method_15_code 2 (some .int) : Cond) ∈ TB := List.mem_append_right _ (List.mem_append_right _ (List.mem_append_right _ (List.mem_append_right _ (List.mem_append_right _ (List.mem_append_right _ (List.mem_append_right _ (List.mem_append_right _ (List.mem_append_right _ (List.mem_append_right _ (List.mem_append_right _ (List.mem_append_right _ (List.mem_append_left _ (List.mem_of_getElem? (i := 39) rfl)))))))))))))
theorem q520 : (.methodLink R_Moment 74 y_Moment_winsAgainstAll : Cond) ∈ TB := List.mem_append_right _ (List.mem_append_right _ (List.mem_append_right _ (List.mem_append_right _ (List.mem_append_right _ (List.mem_append_right _ (List.mem_append_right _ (List.mem_append_right _ (List.mem_append_right _ (List.mem_append_right _ (List.mem_append_right _ (List.mem_append_right _ (List.mem_append_right _ (List.mem_append_left _ (List.mem_of_getElem? (i := 0) rfl))))))))))))))
theorem q521 : (.instanceMethod y_Moment_winsAgainstAll : Cond) ∈ TB := List.mem_append_right _ (List.mem_append_right _ (List.mem_append_right _ (List.mem_append_right _ (List.mem_append_right _ (List.mem_append_right _ (List.mem_append_right _ (List.mem_append_right _ (List.mem_append_right _ (List.mem_append_right _ (List.mem_append_right _ (List.mem_append_right _ (List.mem_append_right _ (List.mem_append_left _ (List.mem_of_getElem? (i := 1) rfl))))))))))))))
theorem q522 : (.code y_Moment_winsAgainstAll prog_3_method_16_code 3 (some .boolean) : Cond) ∈ TB := List.mem_append_right _ (List.mem_append_right _ (List.mem_append_right _ (List.mem_append_right _ (List.mem_append_right _ (List.mem_append_right _ (List.mem_append_right _ (List.mem_append_right _ (List.mem_append_right _ (List.mem_append_right _ (List.mem_append_right _ (List.mem_append_right _ (List.mem_append_right _ (List.mem_append_left _ (List.mem_of_getElem? (i := 2) rfl))))))))))))))
theorem q523 : (.methodLink R_Moment 78 y_Moment_lead : Cond) ∈ TB := List.mem_append_right _ (List.mem_append_right _ (List.mem_append_right _ (List.mem_append_right _ (List.mem_append_right _ (List.mem_append_right _ (List.mem_append_right _ (List.mem_append_right _ (List.mem_append_right _ (List.mem_append_right _ (List.mem_append_right _ (List.mem_append_right _ (List.mem_append_right _ (List.mem_append_left _ (List.mem_of_getElem? (i := 3) rfl))))))))))))))
theorem q524 : (.methodLink R_law 76 y_Nm_middle : Cond) ∈ TB := List.mem_append_right _ (List.mem_append_right _ (List.mem_append_right _ (List.mem_append_right _ (List.mem_append_right _ (List.mem_append_right _ (List.mem_append_right _ (List.mem_append_right _ (List.mem_append_right _ (List.mem_append_right _ (List.mem_append_right _ (List.mem_append_right _ (List.mem_append_right _ (List.mem_append_left _ (List.mem_of_getElem? (i := 4) rfl))))))))))))))
theorem q525 : (.instanceMethod y_Nm_middle : Cond) ∈ TB := List.mem_append_right _ (List.mem_append_right _ (List.mem_append_right _ (List.mem_append_right _ (List.mem_append_right _ (List.mem_append_right _ (List.mem_append_right _ (List.mem_append_right _ (List.mem_append_right _ (List.mem_append_right _ (List.mem_append_right _ (List.mem_append_right _ (List.mem_append_right _ (List.mem_append_left _ (List.mem_of_getElem? (i := 5) rfl))))))))))))))
theorem q526 : (.selects R_Nm y_Nm_middle y_Nm_middle : Cond) ∈ TB := List.mem_append_right _ (List.mem_append_right _ (List.mem_append_right _ (List.mem_append_right _ (List.mem_append_right _ (List.mem_append_right _ (List.mem_append_right _ (List.mem_append_right _ (List.mem_append_right _ (List.mem_append_right _ (List.mem_append_right _ (List.mem_append_right _ (List.mem_append_right _ (List.mem_append_left _ (List.mem_of_getElem? (i := 6) rfl))))))))))))))
theorem q527 : (.code y_Nm_middle prog_1_method_17_code 1 (some .int) : Cond) ∈ TB := List.mem_append_right _ (List.mem_append_right _ (List.mem_append_right _ (List.mem_append_right _ (List.mem_append_right _ (List.mem_append_right _ (List.mem_append_right _ (List.mem_append_right _ (List.mem_append_right _ (List.mem_append_right _ (List.mem_append_right _ (List.mem_append_right _ (List.mem_append_right _ (List.mem_append_left _ (List.mem_of_getElem? (i := 7) rfl))))))))))))))
theorem q528 : (.methodLink R_Nm 189 y_Moment_nobodysWorst : Cond) ∈ TB := List.mem_append_right _ (List.mem_append_right _ (List.mem_append_right _ (List.mem_append_right _ (List.mem_append_right _ (List.mem_append_right _ (List.mem_append_right _ (List.mem_append_right _ (List.mem_append_right _ (List.mem_append_right _ (List.mem_append_right _ (List.mem_append_right _ (List.mem_append_right _ (List.mem_append_left _ (List.mem_of_getElem? (i := 8) rfl))))))))))))))
theorem q529 : (.instanceMethod y_Moment_nobodysWorst : Cond) ∈ TB := List.mem_append_right _ (List.mem_append_right _ (List.mem_append_right _ (List.mem_append_right _ (List.mem_append_right _ (List.mem_append_right _ (List.mem_append_right _ (List.mem_append_right _ (List.mem_append_right _ (List.mem_append_right _ (List.mem_append_right _ (List.mem_append_right _ (List.mem_append_right _ (List.mem_append_left _ (List.mem_of_getElem? (i := 9) rfl))))))))))))))
theorem q530 : (.selects R_Moment y_Moment_nobodysWorst y_Moment_nobodysWorst : Cond) ∈ TB := List.mem_append_right _ (List.mem_append_right _ (List.mem_append_right _ (List.mem_append_right _ (List.mem_append_right _ (List.mem_append_right _ (List.mem_append_right _ (List.mem_append_right _ (List.mem_append_right _ (List.mem_append_right _ (List.mem_append_right _ (List.mem_append_right _ (List.mem_append_right _ (List.mem_append_left _ (List.mem_of_getElem? (i := 10) rfl))))))))))))))
theorem q531 : (.code y_Moment_nobodysWorst prog_3_method_17_code 3 (some .int) : Cond) ∈ TB := List.mem_append_right _ (List.mem_append_right _ (List.mem_append_right _ (List.mem_append_right _ (List.mem_append_right _ (List.mem_append_right _ (List.mem_append_right _ (List.mem_append_right _ (List.mem_append_right _ (List.mem_append_right _ (List.mem_append_right _ (List.mem_append_right _ (List.mem_append_right _ (List.mem_append_left _ (List.mem_of_getElem? (i := 11) rfl))))))))))))))
theorem q532 : (.methodLink R_Moment 81 y_Int_bitCount_0f7a4 : Cond) ∈ TB := List.mem_append_right _ (List.mem_append_right _ (List.mem_append_right _ (List.mem_append_right _ (List.mem_append_right _ (List.mem_append_right _ (List.mem_append_right _ (List.mem_append_right _ (List.mem_append_right _ (List.mem_append_right _ (List.mem_append_right _ (List.mem_append_right _ (List.mem_append_right _ (List.mem_append_left _ (List.mem_of_getElem? (i := 12) rfl))))))))))))))
theorem q533 : (.methodLink R_Moment 84 y_Moment_worstAlone : Cond) ∈ TB := List.mem_append_right _ (List.mem_append_right _ (List.mem_append_right _ (List.mem_append_right _ (List.mem_append_right _ (List.mem_append_right _ (List.mem_append_right _ (List.mem_append_right _ (List.mem_append_right _ (List.mem_append_right _ (List.mem_append_right _ (List.mem_append_right _ (List.mem_append_right _ (List.mem_append_left _ (List.mem_of_getElem? (i := 13) rfl))))))))))))))
theorem q534 : (.instanceMethod y_Moment_worstAlone : Cond) ∈ TB := List.mem_append_right _ (List.mem_append_right _ (List.mem_append_right _ (List.mem_append_right _ (List.mem_append_right _ (List.mem_append_right _ (List.mem_append_right _ (List.mem_append_right _ (List.mem_append_right _ (List.mem_append_right _ (List.mem_append_right _ (List.mem_append_right _ (List.mem_append_right _ (List.mem_append_left _ (List.mem_of_getElem? (i := 14) rfl))))))))))))))
theorem q535 : (.code y_Moment_worstAlone prog_3_method_18_code 4 (some .int) : Cond) ∈ TB := List.mem_append_right _ (List.mem_append_right _ (List.mem_append_right _ (List.mem_append_right _ (List.mem_append_right _ (List.mem_append_right _ (List.mem_append_right _ (List.mem_append_right _ (List.mem_append_right _ (List.mem_append_right _ (List.mem_append_right _ (List.mem_append_right _ (List.mem_append_right _ (List.mem_append_left _ (List.mem_of_getElem? (i := 15) rfl))))))))))))))
theorem q536 : (.methodLink R_Moment 87 y_Moment_leastLiked : Cond) ∈ TB := List.mem_append_right _ (List.mem_append_right _ (List.mem_append_right _ (List.mem_append_right _ (List.mem_append_right _ (List.mem_append_right _ (List.mem_append_right _ (List.mem_append_right _ (List.mem_append_right _ (List.mem_append_right _ (List.mem_append_right _ (List.mem_append_right _ (List.mem_append_right _ (List.mem_append_left _ (List.mem_of_getElem? (i := 16) rfl))))))))))))))
theorem q537 : (.instanceMethod y_Moment_leastLiked : Cond) ∈ TB := List.mem_append_right _ (List.mem_append_right _ (List.mem_append_right _ (List.mem_append_right _ (List.mem_append_right _ (List.mem_append_right _ (List.mem_append_right _ (List.mem_append_right _ (List.mem_append_right _ (List.mem_append_right _ (List.mem_append_right _ (List.mem_append_right _ (List.mem_append_right _ (List.mem_append_left _ (List.mem_of_getElem? (i := 17) rfl))))))))))))))
theorem q538 : (.selects R_Moment y_Moment_leastLiked y_Moment_leastLiked : Cond) ∈ TB := List.mem_append_right _ (List.mem_append_right _ (List.mem_append_right _ (List.mem_append_right _ (List.mem_append_right _ (List.mem_append_right _ (List.mem_append_right _ (List.mem_append_right _ (List.mem_append_right _ (List.mem_append_right _ (List.mem_append_right _ (List.mem_append_right _ (List.mem_append_right _ (List.mem_append_left _ (List.mem_of_getElem? (i := 18) rfl))))))))))))))
theorem q539 : (.code y_Moment_leastLiked prog_3_method_7_code 5 (some .int) : Cond) ∈ TB := List.mem_append_right _ (List.mem_append_right _ (List.mem_append_right _ (List.mem_append_right _ (List.mem_append_right _ (List.mem_append_right _ (List.mem_append_right _ (List.mem_append_right _ (List.mem_append_right _ (List.mem_append_right _ (List.mem_append_right _ (List.mem_append_right _ (List.mem_append_right _ (List.mem_append_left _ (List.mem_of_getElem? (i := 19) rfl))))))))))))))
theorem q540 : (.methodLink R_law 80 y_Nm_struck : Cond) ∈ TB := List.mem_append_right _ (List.mem_append_right _ (List.mem_append_right _ (List.mem_append_right _ (List.mem_append_right _ (List.mem_append_right _ (List.mem_append_right _ (List.mem_append_right _ (List.mem_append_right _ (List.mem_append_right _ (List.mem_append_right _ (List.mem_append_right _ (List.mem_append_right _ (List.mem_append_left _ (List.mem_of_getElem? (i := 20) rfl))))))))))))))
theorem q541 : (.instanceMethod y_Nm_struck : Cond) ∈ TB := List.mem_append_right _ (List.mem_append_right _ (List.mem_append_right _ (List.mem_append_right _ (List.mem_append_right _ (List.mem_append_right _ (List.mem_append_right _ (List.mem_append_right _ (List.mem_append_right _ (List.mem_append_right _ (List.mem_append_right _ (List.mem_append_right _ (List.mem_append_right _ (List.mem_append_left _ (List.mem_of_getElem? (i := 21) rfl))))))))))))))
theorem q542 : (.selects R_Nm y_Nm_struck y_Nm_struck : Cond) ∈ TB := List.mem_append_right _ (List.mem_append_right _ (List.mem_append_right _ (List.mem_append_right _ (List.mem_append_right _ (List.mem_append_right _ (List.mem_append_right _ (List.mem_append_right _ (List.mem_append_right _ (List.mem_append_right _ (List.mem_append_right _ (List.mem_append_right _ (List.mem_append_right _ (List.mem_append_left _ (List.mem_of_getElem? (i := 22) rfl))))))))))))))
theorem q543 : (.code y_Nm_struck prog_1_method_18_code 2 (some .int) : Cond) ∈ TB := List.mem_append_right _ (List.mem_append_right _ (List.mem_append_right _ (List.mem_append_right _ (List.mem_append_right _ (List.mem_append_right _ (List.mem_append_right _ (List.mem_append_right _ (List.mem_append_right _ (List.mem_append_right _ (List.mem_append_right _ (List.mem_append_right _ (List.mem_append_right _ (List.mem_append_left _ (List.mem_of_getElem? (i := 23) rfl))))))))))))))
theorem q544 : (.methodLink R_Nm 192 y_Moment_lastStanding : Cond) ∈ TB := List.mem_append_right _ (List.mem_append_right _ (List.mem_append_right _ (List.mem_append_right _ (List.mem_append_right _ (List.mem_append_right _ (List.mem_append_right _ (List.mem_append_right _ (List.mem_append_right _ (List.mem_append_right _ (List.mem_append_right _ (List.mem_append_right _ (List.mem_append_right _ (List.mem_append_left _ (List.mem_of_getElem? (i := 24) rfl))))))))))))))
theorem q545 : (.instanceMethod y_Moment_lastStanding : Cond) ∈ TB := List.mem_append_right _ (List.mem_append_right _ (List.mem_append_right _ (List.mem_append_right _ (List.mem_append_right _ (List.mem_append_right _ (List.mem_append_right _ (List.mem_append_right _ (List.mem_append_right _ (List.mem_append_right _ (List.mem_append_right _ (List.mem_append_right _ (List.mem_append_right _ (List.mem_append_left _ (List.mem_of_getElem? (i := 25) rfl))))))))))))))
theorem q546 : (.selects R_Moment y_Moment_lastStanding y_Moment_lastStanding : Cond) ∈ TB := List.mem_append_right _ (List.mem_append_right _ (List.mem_append_right _ (List.mem_append_right _ (List.mem_append_right _ (List.mem_append_right _ (List.mem_append_right _ (List.mem_append_right _ (List.mem_append_right _ (List.mem_append_right _ (List.mem_append_right _ (List.mem_append_right _ (List.mem_append_right _ (List.mem_append_left _ (List.mem_of_getElem? (i := 26) rfl))))))))))))))
theorem q547 : (.code y_Moment_lastStanding prog_3_method_19_code 5 (some .int) : Cond) ∈ TB := List.mem_append_right _ (List.mem_append_right _ (List.mem_append_right _ (List.mem_append_right _ (List.mem_append_right _ (List.mem_append_right _ (List.mem_append_right _ (List.mem_append_right _ (List.mem_append_right _ (List.mem_append_right _ (List.mem_append_right _ (List.mem_append_right _ (List.mem_append_right _ (List.mem_append_left _ (List.mem_of_getElem? (i := 27) rfl))))))))))))))
theorem q548 : (.methodLink R_law 84 y_Nm_two : Cond) ∈ TB := List.mem_append_right _ (List.mem_append_right _ (List.mem_append_right _ (List.mem_append_right _ (List.mem_append_right _ (List.mem_append_right _ (List.mem_append_right _ (List.mem_append_right _ (List.mem_append_right _ (List.mem_append_right _ (List.mem_append_right _ (List.mem_append_right _ (List.mem_append_right _ (List.mem_append_left _ (List.mem_of_getElem? (i := 28) rfl))))))))))))))
theorem q549 : (.instanceMethod y_Nm_two : Cond) ∈ TB := List.mem_append_right _ (List.mem_append_right _ (List.mem_append_right _ (List.mem_append_right _ (List.mem_append_right _ (List.mem_append_right _ (List.mem_append_right _ (List.mem_append_right _ (List.mem_append_right _ (List.mem_append_right _ (List.mem_append_right _ (List.mem_append_right _ (List.mem_append_right _ (List.mem_append_left _ (List.mem_of_getElem? (i := 29) rfl))))))))))))))
theorem q550 : (.selects R_Nm y_Nm_two y_Nm_two : Cond) ∈ TB := List.mem_append_right _ (List.mem_append_right _ (List.mem_append_right _ (List.mem_append_right _ (List.mem_append_right _ (List.mem_append_right _ (List.mem_append_right _ (List.mem_append_right _ (List.mem_append_right _ (List.mem_append_right _ (List.mem_append_right _ (List.mem_append_right _ (List.mem_append_right _ (List.mem_append_left _ (List.mem_of_getElem? (i := 30) rfl))))))))))))))
theorem q551 : (.code y_Nm_two prog_1_method_19_code 4 (some .int) : Cond) ∈ TB := List.mem_append_right _ (List.mem_append_right _ (List.mem_append_right _ (List.mem_append_right _ (List.mem_append_right _ (List.mem_append_right _ (List.mem_append_right _ (List.mem_append_right _ (List.mem_append_right _ (List.mem_append_right _ (List.mem_append_right _ (List.mem_append_right _ (List.mem_append_right _ (List.mem_append_left _ (List.mem_of_getElem? (i := 31) rfl))))))))))))))
theorem q552 : (.methodLink R_Nm 195 y_Moment_bestPair : Cond) ∈ TB := List.mem_append_right _ (List.mem_append_right _ (List.mem_append_right _ (List.mem_append_right _ (List.mem_append_right _ (List.mem_append_right _ (List.mem_append_right _ (List.mem_append_right _ (List.mem_append_right _ (List.mem_append_right _ (List.mem_append_right _ (List.mem_append_right _ (List.mem_append_right _ (List.mem_append_left _ (List.mem_of_getElem? (i := 32) rfl))))))))))))))
theorem q553 : (.instanceMethod y_Moment_bestPair : Cond) ∈ TB := List.mem_append_right _ (List.mem_append_right _ (List.mem_append_right _ (List.mem_append_right _ (List.mem_append_right _ (List.mem_append_right _ (List.mem_append_right _ (List.mem_append_right _ (List.mem_append_right _ (List.mem_append_right _ (List.mem_append_right _ (List.mem_append_right _ (List.mem_append_right _ (List.mem_append_left _ (List.mem_of_getElem? (i := 33) rfl))))))))))))))
theorem q554 : (.selects R_Moment y_Moment_bestPair y_Moment_bestPair : Cond) ∈ TB := List.mem_append_right _ (List.mem_append_right _ (List.mem_append_right _ (List.mem_append_right _ (List.mem_append_right _ (List.mem_append_right _ (List.mem_append_right _ (List.mem_append_right _ (List.mem_append_right _ (List.mem_append_right _ (List.mem_append_right _ (List.mem_append_right _ (List.mem_append_right _ (List.mem_append_left _ (List.mem_of_getElem? (i := 34) rfl))))))))))))))
theorem q555 : (.code y_Moment_bestPair prog_3_method_20_code 5 (some .int) : Cond) ∈ TB := List.mem_append_right _ (List.mem_append_right _ (List.mem_append_right _ (List.mem_append_right _ (List.mem_append_right _ (List.mem_append_right _ (List.mem_append_right _ (List.mem_append_right _ (List.mem_append_right _ (List.mem_append_right _ (List.mem_append_right _ (List.mem_append_right _ (List.mem_append_right _ (List.mem_append_left _ (List.mem_of_getElem? (i := 35) rfl))))))))))))))
theorem q556 : (.methodLink R_Moment 90 y_Moment_pairWorth : Cond) ∈ TB := List.mem_append_right _ (List.mem_append_right _ (List.mem_append_right _ (List.mem_append_right _ (List.mem_append_right _ (List.mem_append_right _ (List.mem_append_right _ (List.mem_append_right _ (List.mem_append_right _ (List.mem_append_right _ (List.mem_append_right _ (List.mem_append_right _ (List.mem_append_right _ (List.mem_append_left _ (List.mem_of_getElem? (i := 36) rfl))))))))))))))
theorem q557 : (.instanceMethod y_Moment_pairWorth : Cond) ∈ TB := List.mem_append_right _ (List.mem_append_right _ (List.mem_append_right _ (List.mem_append_right _ (List.mem_append_right _ (List.mem_append_right _ (List.mem_append_right _ (List.mem_append_right _ (List.mem_append_right _ (List.mem_append_right _ (List.mem_append_right _ (List.mem_append_right _ (List.mem_append_right _ (List.mem_append_left _ (List.mem_of_getElem? (i := 37) rfl))))))))))))))
theorem q558 : (.selects R_Moment y_Moment_pairWorth y_Moment_pairWorth : Cond) ∈ TB := List.mem_append_right _ (List.mem_append_right _ (List.mem_append_right _ (List.mem_append_right _ (List.mem_append_right _ (List.mem_append_right _ (List.mem_append_right _ (List.mem_append_right _ (List.mem_append_right _ (List.mem_append_right _ (List.mem_append_right _ (List.mem_append_right _ (List.mem_append_right _ (List.mem_append_left _ (List.mem_of_getElem? (i := 38) rfl))))))))))))))
theorem q559 : (.code y_Moment_pairWorth prog_3_method_21_code 5 (some .int) : Cond) ∈ TB := List.mem_append_right _ (List.mem_append_right _ (List.mem_append_right _ (List.mem_append_right _ (List.mem_append_right _ (List.mem_append_right _ (List.mem_append_right _ (List.mem_append_right _ (List.mem_append_right _ (List.mem_append_right _ (List.mem_append_right _ (List.mem_append_right _ (List.mem_append_right _ (List.mem_append_left _ (List.mem_of_getElem? (i := 39) rfl))))))))))))))
theorem q560 : (.methodLink R_Moment 93 y_Math_max_7cf53 : Cond) ∈ TB := List.mem_append_right _ (List.mem_append_right _ (List.mem_append_right _ (List.mem_append_right _ (List.mem_append_right _ (List.mem_append_right _ (List.mem_append_right _ (List.mem_append_right _ (List.mem_append_right _ (List.mem_append_right _ (List.mem_append_right _ (List.mem_append_right _ (List.mem_append_right _ (List.mem_append_right _ (List.mem_append_left _ (List.mem_of_getElem? (i := 0) rfl)))))))))))))))
theorem q561 : (.static y_Math_max_7cf53 : Cond) ∈ TB := List.mem_append_right _ (List.mem_append_right _ (List.mem_append_right _ (List.mem_append_right _ (List.mem_append_right _ (List.mem_append_right _ (List.mem_append_right _ (List.mem_append_right _ (List.mem_append_right _ (List.mem_append_right _ (List.mem_append_right _ (List.mem_append_right _ (List.mem_append_right _ (List.mem_append_right _ (List.mem_append_left _ (List.mem_of_getElem? (i := 1) rfl)))))))))))))))
theorem q562 : (.code y_Math_max_7cf53 prog_12_method_65_code 2 (some .int) : Cond) ∈ TB := List.mem_append_right _ (List.mem_append_right _ (List.mem_append_right _ (List.mem_append_right _ (List.mem_append_right _ (List.mem_append_right _ (List.mem_append_right _ (List.mem_append_right _ (List.mem_append_right _ (List.mem_append_right _ (List.mem_append_right _ (List.mem_append_right _ (List.mem_append_right _ (List.mem_append_right _ (List.mem_append_left _ (List.mem_of_getElem? (i := 2) rfl)))))))))))))))
theorem q563 : (.methodLink R_Nm 198 y_Moment_pairWorth : Cond) ∈ TB := List.mem_append_right _ (List.mem_append_right _ (List.mem_append_right _ (List.mem_append_right _ (List.mem_append_right _ (List.mem_append_right _ (List.mem_append_right _ (List.mem_append_right _ (List.mem_append_right _ (List.mem_append_right _ (List.mem_append_right _ (List.mem_append_right _ (List.mem_append_right _ (List.mem_append_right _ (List.mem_append_left _ (List.mem_of_getElem? (i := 3) rfl)))))))))))))))
theorem q564 : (.methodLink R_law 88 y_Nm_houses : Cond) ∈ TB := List.mem_append_right _ (List.mem_append_right _ (List.mem_append_right _ (List.mem_append_right _ (List.mem_append_right _ (List.mem_append_right _ (List.mem_append_right _ (List.mem_append_right _ (List.mem_append_right _ (List.mem_append_right _ (List.mem_append_right _ (List.mem_append_right _ (List.mem_append_right _ (List.mem_append_right _ (List.mem_append_left _ (List.mem_of_getElem? (i := 4) rfl)))))))))))))))
theorem q565 : (.instanceMethod y_Nm_houses : Cond) ∈ TB := List.mem_append_right _ (List.mem_append_right _ (List.mem_append_right _ (List.mem_append_right _ (List.mem_append_right _ (List.mem_append_right _ (List.mem_append_right _ (List.mem_append_right _ (List.mem_append_right _ (List.mem_append_right _ (List.mem_append_right _ (List.mem_append_right _ (List.mem_append_right _ (List.mem_append_right _ (List.mem_append_left _ (List.mem_of_getElem? (i := 5) rfl)))))))))))))))
theorem q566 : (.selects R_Nm y_Nm_houses y_Nm_houses : Cond) ∈ TB := List.mem_append_right _ (List.mem_append_right _ (List.mem_append_right _ (List.mem_append_right _ (List.mem_append_right _ (List.mem_append_right _ (List.mem_append_right _ (List.mem_append_right _ (List.mem_append_right _ (List.mem_append_right _ (List.mem_append_right _ (List.mem_append_right _ (List.mem_append_right _ (List.mem_append_right _ (List.mem_append_left _ (List.mem_of_getElem? (i := 6) rfl)))))))))))))))
theorem q567 : (.code y_Nm_houses prog_1_method_20_code 5 (some .int) : Cond) ∈ TB := List.mem_append_right _ (List.mem_append_right _ (List.mem_append_right _ (List.mem_append_right _ (List.mem_append_right _ (List.mem_append_right _ (List.mem_append_right _ (List.mem_append_right _ (List.mem_append_right _ (List.mem_append_right _ (List.mem_append_right _ (List.mem_append_right _ (List.mem_append_right _ (List.mem_append_right _ (List.mem_append_left _ (List.mem_of_getElem? (i := 7) rfl)))))))))))))))
theorem q568 : (.methodLink R_law 92 y_Nm_waits : Cond) ∈ TB := List.mem_append_right _ (List.mem_append_right _ (List.mem_append_right _ (List.mem_append_right _ (List.mem_append_right _ (List.mem_append_right _ (List.mem_append_right _ (List.mem_append_right _ (List.mem_append_right _ (List.mem_append_right _ (List.mem_append_right _ (List.mem_append_right _ (List.mem_append_right _ (List.mem_append_right _ (List.mem_append_left _ (List.mem_of_getElem? (i := 8) rfl)))))))))))))))
theorem q569 : (.instanceMethod y_Nm_waits : Cond) ∈ TB := List.mem_append_right _ (List.mem_append_right _ (List.mem_append_right _ (List.mem_append_right _ (List.mem_append_right _ (List.mem_append_right _ (List.mem_append_right _ (List.mem_append_right _ (List.mem_append_right _ (List.mem_append_right _ (List.mem_append_right _ (List.mem_append_right _ (List.mem_append_right _ (List.mem_append_right _ (List.mem_append_left _ (List.mem_of_getElem? (i := 9) rfl)))))))))))))))
theorem q570 : (.selects R_Nm y_Nm_waits y_Nm_waits : Cond) ∈ TB := List.mem_append_right _ (List.mem_append_right _ (List.mem_append_right _ (List.mem_append_right _ (List.mem_append_right _ (List.mem_append_right _ (List.mem_append_right _ (List.mem_append_right _ (List.mem_append_right _ (List.mem_append_right _ (List.mem_append_right _ (List.mem_append_right _ (List.mem_append_right _ (List.mem_append_right _ (List.mem_append_left _ (List.mem_of_getElem? (i := 10) rfl)))))))))))))))
theorem q571 : (.code y_Nm_waits prog_1_method_21_code 7 (some .int) : Cond) ∈ TB := List.mem_append_right _ (List.mem_append_right _ (List.mem_append_right _ (List.mem_append_right _ (List.mem_append_right _ (List.mem_append_right _ (List.mem_append_right _ (List.mem_append_right _ (List.mem_append_right _ (List.mem_append_right _ (List.mem_append_right _ (List.mem_append_right _ (List.mem_append_right _ (List.mem_append_right _ (List.mem_append_left _ (List.mem_of_getElem? (i := 11) rfl)))))))))))))))
theorem q572 : (.methodLink R_law 96 y_Nm_heard : Cond) ∈ TB := List.mem_append_right _ (List.mem_append_right _ (List.mem_append_right _ (List.mem_append_right _ (List.mem_append_right _ (List.mem_append_right _ (List.mem_append_right _ (List.mem_append_right _ (List.mem_append_right _ (List.mem_append_right _ (List.mem_append_right _ (List.mem_append_right _ (List.mem_append_right _ (List.mem_append_right _ (List.mem_append_left _ (List.mem_of_getElem? (i := 12) rfl)))))))))))))))
theorem q573 : (.instanceMethod y_Nm_heard : Cond) ∈ TB := List.mem_append_right _ (List.mem_append_right _ (List.mem_append_right _ (List.mem_append_right _ (List.mem_append_right _ (List.mem_append_right _ (List.mem_append_right _ (List.mem_append_right _ (List.mem_append_right _ (List.mem_append_right _ (List.mem_append_right _ (List.mem_append_right _ (List.mem_append_right _ (List.mem_append_right _ (List.mem_append_left _ (List.mem_of_getElem? (i := 13) rfl)))))))))))))))
theorem q574 : (.selects R_Nm y_Nm_heard y_Nm_heard : Cond) ∈ TB := List.mem_append_right _ (List.mem_append_right _ (List.mem_append_right _ (List.mem_append_right _ (List.mem_append_right _ (List.mem_append_right _ (List.mem_append_right _ (List.mem_append_right _ (List.mem_append_right _ (List.mem_append_right _ (List.mem_append_right _ (List.mem_append_right _ (List.mem_append_right _ (List.mem_append_right _ (List.mem_append_left _ (List.mem_of_getElem? (i := 14) rfl)))))))))))))))
theorem q575 : (.code y_Nm_heard prog_1_method_22_code 5 (some .int) : Cond) ∈ TB := List.mem_append_right _ (List.mem_append_right _ (List.mem_append_right _ (List.mem_append_right _ (List.mem_append_right _ (List.mem_append_right _ (List.mem_append_right _ (List.mem_append_right _ (List.mem_append_right _ (List.mem_append_right _ (List.mem_append_right _ (List.mem_append_right _ (List.mem_append_right _ (List.mem_append_right _ (List.mem_append_left _ (List.mem_of_getElem? (i := 15) rfl)))))))))))))))
theorem q576 : (.methodLink R_Nm 208 y_Notes_next : Cond) ∈ TB := List.mem_append_right _ (List.mem_append_right _ (List.mem_append_right _ (List.mem_append_right _ (List.mem_append_right _ (List.mem_append_right _ (List.mem_append_right _ (List.mem_append_right _ (List.mem_append_right _ (List.mem_append_right _ (List.mem_append_right _ (List.mem_append_right _ (List.mem_append_right _ (List.mem_append_right _ (List.mem_append_left _ (List.mem_of_getElem? (i := 16) rfl)))))))))))))))
theorem q577 : (.instanceMethod y_Notes_next : Cond) ∈ TB := List.mem_append_right _ (List.mem_append_right _ (List.mem_append_right _ (List.mem_append_right _ (List.mem_append_right _ (List.mem_append_right _ (List.mem_append_right _ (List.mem_append_right _ (List.mem_append_right _ (List.mem_append_right _ (List.mem_append_right _ (List.mem_append_right _ (List.mem_append_right _ (List.mem_append_right _ (List.mem_append_left _ (List.mem_of_getElem? (i := 17) rfl)))))))))))))))
theorem q578 : (.selects R_Notes y_Notes_next y_Notes_next : Cond) ∈ TB := List.mem_append_right _ (List.mem_append_right _ (List.mem_append_right _ (List.mem_append_right _ (List.mem_append_right _ (List.mem_append_right _ (List.mem_append_right _ (List.mem_append_right _ (List.mem_append_right _ (List.mem_append_right _ (List.mem_append_right _ (List.mem_append_right _ (List.mem_append_right _ (List.mem_append_right _ (List.mem_append_left _ (List.mem_of_getElem? (i := 18) rfl)))))))))))))))
theorem q579 : (.code y_Notes_next prog_5_method_3_code 2 (some (.object "NoneMinds$Note")) : Cond) ∈ TB := List.mem_append_right _ (List.mem_append_right _ (List.mem_append_right _ (List.mem_append_right _ (List.mem_append_right _ (List.mem_append_right _ (List.mem_append_right _ (List.mem_append_right _ (List.mem_append_right _ (List.mem_append_right _ (List.mem_append_right _ (List.mem_append_right _ (List.mem_append_right _ (List.mem_append_right _ (List.mem_append_left _ (List.mem_of_getElem? (i := 19) rfl)))))))))))))))
theorem q580 : (.methodLink R_Notes 22 y_Notes_get : Cond) ∈ TB := List.mem_append_right _ (List.mem_append_right _ (List.mem_append_right _ (List.mem_append_right _ (List.mem_append_right _ (List.mem_append_right _ (List.mem_append_right _ (List.mem_append_right _ (List.mem_append_right _ (List.mem_append_right _ (List.mem_append_right _ (List.mem_append_right _ (List.mem_append_right _ (List.mem_append_right _ (List.mem_append_left _ (List.mem_of_getElem? (i := 20) rfl)))))))))))))))
theorem q581 : (.instanceMethod y_Notes_get : Cond) ∈ TB := List.mem_append_right _ (List.mem_append_right _ (List.mem_append_right _ (List.mem_append_right _ (List.mem_append_right _ (List.mem_append_right _ (List.mem_append_right _ (List.mem_append_right _ (List.mem_append_right _ (List.mem_append_right _ (List.mem_append_right _ (List.mem_append_right _ (List.mem_append_right _ (List.mem_append_right _ (List.mem_append_left _ (List.mem_of_getElem? (i := 21) rfl)))))))))))))))
theorem q582 : (.selects R_Notes y_Notes_get y_Notes_get : Cond) ∈ TB := List.mem_append_right _ (List.mem_append_right _ (List.mem_append_right _ (List.mem_append_right _ (List.mem_append_right _ (List.mem_append_right _ (List.mem_append_right _ (List.mem_append_right _ (List.mem_append_right _ (List.mem_append_right _ (List.mem_append_right _ (List.mem_append_right _ (List.mem_append_right _ (List.mem_append_right _ (List.mem_append_left _ (List.mem_of_getElem? (i := 22) rfl)))))))))))))))
theorem q583 : (.code y_Notes_get prog_5_method_2_code 2 (some (.object "NoneMinds$Note")) : Cond) ∈ TB := List.mem_append_right _ (List.mem_append_right _ (List.mem_append_right _ (List.mem_append_right _ (List.mem_append_right _ (List.mem_append_right _ (List.mem_append_right _ (List.mem_append_right _ (List.mem_append_right _ (List.mem_append_right _ (List.mem_append_right _ (List.mem_append_right _ (List.mem_append_right _ (List.mem_append_right _ (List.mem_append_left _ (List.mem_of_getElem? (i := 23) rfl)))))))))))))))
theorem q584 : (.methodLink R_law 101 y_Nm_forget : Cond) ∈ TB := List.mem_append_right _ (List.mem_append_right _ (List.mem_append_right _ (List.mem_append_right _ (List.mem_append_right _ (List.mem_append_right _ (List.mem_append_right _ (List.mem_append_right _ (List.mem_append_right _ (List.mem_append_right _ (List.mem_append_right _ (List.mem_append_right _ (List.mem_append_right _ (List.mem_append_right _ (List.mem_append_left _ (List.mem_of_getElem? (i := 24) rfl)))))))))))))))
theorem q585 : (.instanceMethod y_Nm_forget : Cond) ∈ TB := List.mem_append_right _ (List.mem_append_right _ (List.mem_append_right _ (List.mem_append_right _ (List.mem_append_right _ (List.mem_append_right _ (List.mem_append_right _ (List.mem_append_right _ (List.mem_append_right _ (List.mem_append_right _ (List.mem_append_right _ (List.mem_append_right _ (List.mem_append_right _ (List.mem_append_right _ (List.mem_append_left _ (List.mem_of_getElem? (i := 25) rfl)))))))))))))))
theorem q586 : (.selects R_Nm y_Nm_forget y_Nm_forget : Cond) ∈ TB := List.mem_append_right _ (List.mem_append_right _ (List.mem_append_right _ (List.mem_append_right _ (List.mem_append_right _ (List.mem_append_right _ (List.mem_append_right _ (List.mem_append_right _ (List.mem_append_right _ (List.mem_append_right _ (List.mem_append_right _ (List.mem_append_right _ (List.mem_append_right _ (List.mem_append_right _ (List.mem_append_left _ (List.mem_of_getElem? (i := 26) rfl)))))))))))))))
theorem q587 : (.code y_Nm_forget prog_1_method_23_code 2 (some .int) : Cond) ∈ TB := List.mem_append_right _ (List.mem_append_right _ (List.mem_append_right _ (List.mem_append_right _ (List.mem_append_right _ (List.mem_append_right _ (List.mem_append_right _ (List.mem_append_right _ (List.mem_append_right _ (List.mem_append_right _ (List.mem_append_right _ (List.mem_append_right _ (List.mem_append_right _ (List.mem_append_right _ (List.mem_append_left _ (List.mem_of_getElem? (i := 27) rfl)))))))))))))))
theorem q588 : (.methodLink R_law 105 y_Nm_may : Cond) ∈ TB := List.mem_append_right _ (List.mem_append_right _ (List.mem_append_right _ (List.mem_append_right _ (List.mem_append_right _ (List.mem_append_right _ (List.mem_append_right _ (List.mem_append_right _ (List.mem_append_right _ (List.mem_append_right _ (List.mem_append_right _ (List.mem_append_right _ (List.mem_append_right _ (List.mem_append_right _ (List.mem_append_left _ (List.mem_of_getElem? (i := 28) rfl)))))))))))))))
theorem q589 : (.instanceMethod y_Nm_may : Cond) ∈ TB := List.mem_append_right _ (List.mem_append_right _ (List.mem_append_right _ (List.mem_append_right _ (List.mem_append_right _ (List.mem_append_right _ (List.mem_append_right _ (List.mem_append_right _ (List.mem_append_right _ (List.mem_append_right _ (List.mem_append_right _ (List.mem_append_right _ (List.mem_append_right _ (List.mem_append_right _ (List.mem_append_left _ (List.mem_of_getElem? (i := 29) rfl)))))))))))))))
theorem q590 : (.selects R_Nm y_Nm_may y_Nm_may : Cond) ∈ TB := List.mem_append_right _ (List.mem_append_right _ (List.mem_append_right _ (List.mem_append_right _ (List.mem_append_right _ (List.mem_append_right _ (List.mem_append_right _ (List.mem_append_right _ (List.mem_append_right _ (List.mem_append_right _ (List.mem_append_right _ (List.mem_append_right _ (List.mem_append_right _ (List.mem_append_right _ (List.mem_append_left _ (List.mem_of_getElem? (i := 30) rfl)))))))))))))))
theorem q591 : (.code y_Nm_may prog_1_method_24_code 4 (some .int) : Cond) ∈ TB := List.mem_append_right _ (List.mem_append_right _ (List.mem_append_right _ (List.mem_append_right _ (List.mem_append_right _ (List.mem_append_right _ (List.mem_append_right _ (List.mem_append_right _ (List.mem_append_right _ (List.mem_append_right _ (List.mem_append_right _ (List.mem_append_right _ (List.mem_append_right _ (List.mem_append_right _ (List.mem_append_left _ (List.mem_of_getElem? (i := 31) rfl)))))))))))))))
theorem q592 : (.methodLink R_Nm 226 y_Nm_agreesWithNotes : Cond) ∈ TB := List.mem_append_right _ (List.mem_append_right _ (List.mem_append_right _ (List.mem_append_right _ (List.mem_append_right _ (List.mem_append_right _ (List.mem_append_right _ (List.mem_append_right _ (List.mem_append_right _ (List.mem_append_right _ (List.mem_append_right _ (List.mem_append_right _ (List.mem_append_right _ (List.mem_append_right _ (List.mem_append_left _ (List.mem_of_getElem? (i := 32) rfl)))))))))))))))
theorem q593 : (.instanceMethod y_Nm_agreesWithNotes : Cond) ∈ TB := List.mem_append_right _ (List.mem_append_right _ (List.mem_append_right _ (List.mem_append_right _ (List.mem_append_right _ (List.mem_append_right _ (List.mem_append_right _ (List.mem_append_right _ (List.mem_append_right _ (List.mem_append_right _ (List.mem_append_right _ (List.mem_append_right _ (List.mem_append_right _ (List.mem_append_right _ (List.mem_append_left _ (List.mem_of_getElem? (i := 33) rfl)))))))))))))))
theorem q594 : (.code y_Nm_agreesWithNotes prog_1_method_38_code 6 (some .boolean) : Cond) ∈ TB := List.mem_append_right _ (List.mem_append_right _ (List.mem_append_right _ (List.mem_append_right _ (List.mem_append_right _ (List.mem_append_right _ (List.mem_append_right _ (List.mem_append_right _ (List.mem_append_right _ (List.mem_append_right _ (List.mem_append_right _ (List.mem_append_right _ (List.mem_append_right _ (List.mem_append_right _ (List.mem_append_left _ (List.mem_of_getElem? (i := 34) rfl)))))))))))))))
theorem q595 : (.methodLink R_Nm 279 y_Notes_get : Cond) ∈ TB := List.mem_append_right _ (List.mem_append_right _ (List.mem_append_right _ (List.mem_append_right _ (List.mem_append_right _ (List.mem_append_right _ (List.mem_append_right _ (List.mem_append_right _ (List.mem_append_right _ (List.mem_append_right _ (List.mem_append_right _ (List.mem_append_right _ (List.mem_append_right _ (List.mem_append_right _ (List.mem_append_left _ (List.mem_of_getElem? (i := 35) rfl)))))))))))))))
theorem q596 : (.methodLink R_Nm 283 y_Moment_gives : Cond) ∈ TB := List.mem_append_right _ (List.mem_append_right _ (List.mem_append_right _ (List.mem_append_right _ (List.mem_append_right _ (List.mem_append_right _ (List.mem_append_right _ (List.mem_append_right _ (List.mem_append_right _ (List.mem_append_right _ (List.mem_append_right _ (List.mem_append_right _ (List.mem_append_right _ (List.mem_append_right _ (List.mem_append_left _ (List.mem_of_getElem? (i := 36) rfl)))))))))))))))
theorem q597 : (.methodLink R_law 109 y_Nm_suits : Cond) ∈ TB := List.mem_append_right _ (List.mem_append_right _ (List.mem_append_right _ (List.mem_append_right _ (List.mem_append_right _ (List.mem_append_right _ (List.mem_append_right _ (List.mem_append_right _ (List.mem_append_right _ (List.mem_append_right _ (List.mem_append_right _ (List.mem_append_right _ (List.mem_append_right _ (List.mem_append_right _ (List.mem_append_left _ (List.mem_of_getElem? (i := 37) rfl)))))))))))))))
theorem q598 : (.instanceMethod y_Nm_suits : Cond) ∈ TB := List.mem_append_right _ (List.mem_append_right _ (List.mem_append_right _ (List.mem_append_right _ (List.mem_append_right _ (List.mem_append_right _ (List.mem_append_right _ (List.mem_append_right _ (List.mem_append_right _ (List.mem_append_right _ (List.mem_append_right _ (List.mem_append_right _ (List.mem_append_right _ (List.mem_append_right _ (List.mem_append_left _ (List.mem_of_getElem? (i := 38) rfl)))))))))))))))
theorem q599 : (.selects R_Nm y_Nm_suits y_Nm_suits : Cond) ∈ TB := List.mem_append_right _ (List.mem_append_right _ (List.mem_append_right _ (List.mem_append_right _ (List.mem_append_right _ (List.mem_append_right _ (List.mem_append_right _ (List.mem_append_right _ (List.mem_append_right _ (List.mem_append_right _ (List.mem_append_right _ (List.mem_append_right _ (List.mem_append_right _ (List.mem_append_right _ (List.mem_append_left _ (List.mem_of_getElem? (i := 39) rfl)))))))))))))))
theorem q600 : (.code y_Nm_suits prog_1_method_25_code 6 (some .int) : Cond) ∈ TB := List.mem_append_right _ (List.mem_append_right _ (List.mem_append_right _ (List.mem_append_right _ (List.mem_append_right _ (List.mem_append_right _ (List.mem_append_right _ (List.mem_append_right _ (List.mem_append_right _ (List.mem_append_right _ (List.mem_append_right _ (List.mem_append_right _ (List.mem_append_right _ (List.mem_append_right _ (List.mem_append_right _ (List.mem_append_left _ (List.mem_of_getElem? (i := 0) rfl))))))))))))))))
theorem q601 : (.methodLink R_law 113 y_Nm_against : Cond) ∈ TB := List.mem_append_right _ (List.mem_append_right _ (List.mem_append_right _ (List.mem_append_right _ (List.mem_append_right _ (List.mem_append_right _ (List.mem_append_right _ (List.mem_append_right _ (List.mem_append_right _ (List.mem_append_right _ (List.mem_append_right _ (List.mem_append_right _ (List.mem_append_right _ (List.mem_append_right _ (List.mem_append_right _ (List.mem_append_left _ (List.mem_of_getElem? (i := 1) rfl))))))))))))))))
theorem q602 : (.instanceMethod y_Nm_against : Cond) ∈ TB := List.mem_append_right _ (List.mem_append_right _ (List.mem_append_right _ (List.mem_append_right _ (List.mem_append_right _ (List.mem_append_right _ (List.mem_append_right _ (List.mem_append_right _ (List.mem_append_right _ (List.mem_append_right _ (List.mem_append_right _ (List.mem_append_right _ (List.mem_append_right _ (List.mem_append_right _ (List.mem_append_right _ (List.mem_append_left _ (List.mem_of_getElem? (i := 2) rfl))))))))))))))))
theorem q603 : (.selects R_Nm y_Nm_against y_Nm_against : Cond) ∈ TB := List.mem_append_right _ (List.mem_append_right _ (List.mem_append_right _ (List.mem_append_right _ (List.mem_append_right _ (List.mem_append_right _ (List.mem_append_right _ (List.mem_append_right _ (List.mem_append_right _ (List.mem_append_right _ (List.mem_append_right _ (List.mem_append_right _ (List.mem_append_right _ (List.mem_append_right _ (List.mem_append_right _ (List.mem_append_left _ (List.mem_of_getElem? (i := 3) rfl))))))))))))))))
theorem q604 : (.code y_Nm_against prog_1_method_26_code 3 (some .int) : Cond) ∈ TB := List.mem_append_right _ (List.mem_append_right _ (List.mem_append_right _ (List.mem_append_right _ (List.mem_append_right _ (List.mem_append_right _ (List.mem_append_right _ (List.mem_append_right _ (List.mem_append_right _ (List.mem_append_right _ (List.mem_append_right _ (List.mem_append_right _ (List.mem_append_right _ (List.mem_append_right _ (List.mem_append_right _ (List.mem_append_left _ (List.mem_of_getElem? (i := 4) rfl))))))))))))))))
theorem q605 : (.methodLink R_Nm 229 y_Moment_opponent : Cond) ∈ TB := List.mem_append_right _ (List.mem_append_right _ (List.mem_append_right _ (List.mem_append_right _ (List.mem_append_right _ (List.mem_append_right _ (List.mem_append_right _ (List.mem_append_right _ (List.mem_append_right _ (List.mem_append_right _ (List.mem_append_right _ (List.mem_append_right _ (List.mem_append_right _ (List.mem_append_right _ (List.mem_append_right _ (List.mem_append_left _ (List.mem_of_getElem? (i := 5) rfl))))))))))))))))
theorem q606 : (.instanceMethod y_Moment_opponent : Cond) ∈ TB := List.mem_append_right _ (List.mem_append_right _ (List.mem_append_right _ (List.mem_append_right _ (List.mem_append_right _ (List.mem_append_right _ (List.mem_append_right _ (List.mem_append_right _ (List.mem_append_right _ (List.mem_append_right _ (List.mem_append_right _ (List.mem_append_right _ (List.mem_append_right _ (List.mem_append_right _ (List.mem_append_right _ (List.mem_append_left _ (List.mem_of_getElem? (i := 6) rfl))))))))))))))))
theorem q607 : (.selects R_Moment y_Moment_opponent y_Moment_opponent : Cond) ∈ TB := List.mem_append_right _ (List.mem_append_right _ (List.mem_append_right _ (List.mem_append_right _ (List.mem_append_right _ (List.mem_append_right _ (List.mem_append_right _ (List.mem_append_right _ (List.mem_append_right _ (List.mem_append_right _ (List.mem_append_right _ (List.mem_append_right _ (List.mem_append_right _ (List.mem_append_right _ (List.mem_append_right _ (List.mem_append_left _ (List.mem_of_getElem? (i := 7) rfl))))))))))))))))
theorem q608 : (.code y_Moment_opponent prog_3_method_5_code 4 (some .int) : Cond) ∈ TB := List.mem_append_right _ (List.mem_append_right _ (List.mem_append_right _ (List.mem_append_right _ (List.mem_append_right _ (List.mem_append_right _ (List.mem_append_right _ (List.mem_append_right _ (List.mem_append_right _ (List.mem_append_right _ (List.mem_append_right _ (List.mem_append_right _ (List.mem_append_right _ (List.mem_append_right _ (List.mem_append_right _ (List.mem_append_left _ (List.mem_of_getElem? (i := 8) rfl))))))))))))))))
theorem q609 : (.methodLink R_law 117 y_Nm_ask : Cond) ∈ TB := List.mem_append_right _ (List.mem_append_right _ (List.mem_append_right _ (List.mem_append_right _ (List.mem_append_right _ (List.mem_append_right _ (List.mem_append_right _ (List.mem_append_right _ (List.mem_append_right _ (List.mem_append_right _ (List.mem_append_right _ (List.mem_append_right _ (List.mem_append_right _ (List.mem_append_right _ (List.mem_append_right _ (List.mem_append_left _ (List.mem_of_getElem? (i := 9) rfl))))))))))))))))
theorem q610 : (.instanceMethod y_Nm_ask : Cond) ∈ TB := List.mem_append_right _ (List.mem_append_right _ (List.mem_append_right _ (List.mem_append_right _ (List.mem_append_right _ (List.mem_append_right _ (List.mem_append_right _ (List.mem_append_right _ (List.mem_append_right _ (List.mem_append_right _ (List.mem_append_right _ (List.mem_append_right _ (List.mem_append_right _ (List.mem_append_right _ (List.mem_append_right _ (List.mem_append_left _ (List.mem_of_getElem? (i := 10) rfl))))))))))))))))
theorem q611 : (.selects R_Nm y_Nm_ask y_Nm_ask : Cond) ∈ TB := List.mem_append_right _ (List.mem_append_right _ (List.mem_append_right _ (List.mem_append_right _ (List.mem_append_right _ (List.mem_append_right _ (List.mem_append_right _ (List.mem_append_right _ (List.mem_append_right _ (List.mem_append_right _ (List.mem_append_right _ (List.mem_append_right _ (List.mem_append_right _ (List.mem_append_right _ (List.mem_append_right _ (List.mem_append_left _ (List.mem_of_getElem? (i := 11) rfl))))))))))))))))
theorem q612 : (.code y_Nm_ask prog_1_method_27_code 5 (some .int) : Cond) ∈ TB := List.mem_append_right _ (List.mem_append_right _ (List.mem_append_right _ (List.mem_append_right _ (List.mem_append_right _ (List.mem_append_right _ (List.mem_append_right _ (List.mem_append_right _ (List.mem_append_right _ (List.mem_append_right _ (List.mem_append_right _ (List.mem_append_right _ (List.mem_append_right _ (List.mem_append_right _ (List.mem_append_right _ (List.mem_append_left _ (List.mem_of_getElem? (i := 12) rfl))))))))))))))))
theorem q613 : (.methodLink R_law 121 y_Nm_wheel : Cond) ∈ TB := List.mem_append_right _ (List.mem_append_right _ (List.mem_append_right _ (List.mem_append_right _ (List.mem_append_right _ (List.mem_append_right _ (List.mem_append_right _ (List.mem_append_right _ (List.mem_append_right _ (List.mem_append_right _ (List.mem_append_right _ (List.mem_append_right _ (List.mem_append_right _ (List.mem_append_right _ (List.mem_append_right _ (List.mem_append_left _ (List.mem_of_getElem? (i := 13) rfl))))))))))))))))
theorem q614 : (.instanceMethod y_Nm_wheel : Cond) ∈ TB := List.mem_append_right _ (List.mem_append_right _ (List.mem_append_right _ (List.mem_append_right _ (List.mem_append_right _ (List.mem_append_right _ (List.mem_append_right _ (List.mem_append_right _ (List.mem_append_right _ (List.mem_append_right _ (List.mem_append_right _ (List.mem_append_right _ (List.mem_append_right _ (List.mem_append_right _ (List.mem_append_right _ (List.mem_append_left _ (List.mem_of_getElem? (i := 14) rfl))))))))))))))))
theorem q615 : (.selects R_Nm y_Nm_wheel y_Nm_wheel : Cond) ∈ TB := List.mem_append_right _ (List.mem_append_right _ (List.mem_append_right _ (List.mem_append_right _ (List.mem_append_right _ (List.mem_append_right _ (List.mem_append_right _ (List.mem_append_right _ (List.mem_append_right _ (List.mem_append_right _ (List.mem_append_right _ (List.mem_append_right _ (List.mem_append_right _ (List.mem_append_right _ (List.mem_append_right _ (List.mem_append_left _ (List.mem_of_getElem? (i := 15) rfl))))))))))))))))
theorem q616 : (.code y_Nm_wheel prog_1_method_28_code 8 (some .int) : Cond) ∈ TB := List.mem_append_right _ (List.mem_append_right _ (List.mem_append_right _ (List.mem_append_right _ (List.mem_append_right _ (List.mem_append_right _ (List.mem_append_right _ (List.mem_append_right _ (List.mem_append_right _ (List.mem_append_right _ (List.mem_append_right _ (List.mem_append_right _ (List.mem_append_right _ (List.mem_append_right _ (List.mem_append_right _ (List.mem_append_left _ (List.mem_of_getElem? (i := 16) rfl))))))))))))))))
theorem q617 : (.methodLink R_Nm 240 y_Nm_power : Cond) ∈ TB := List.mem_append_right _ (List.mem_append_right _ (List.mem_append_right _ (List.mem_append_right _ (List.mem_append_right _ (List.mem_append_right _ (List.mem_append_right _ (List.mem_append_right _ (List.mem_append_right _ (List.mem_append_right _ (List.mem_append_right _ (List.mem_append_right _ (List.mem_append_right _ (List.mem_append_right _ (List.mem_append_right _ (List.mem_append_left _ (List.mem_of_getElem? (i := 17) rfl))))))))))))))))
theorem q618 : (.static y_Nm_power : Cond) ∈ TB := List.mem_append_right _ (List.mem_append_right _ (List.mem_append_right _ (List.mem_append_right _ (List.mem_append_right _ (List.mem_append_right _ (List.mem_append_right _ (List.mem_append_right _ (List.mem_append_right _ (List.mem_append_right _ (List.mem_append_right _ (List.mem_append_right _ (List.mem_append_right _ (List.mem_append_right _ (List.mem_append_right _ (List.mem_append_left _ (List.mem_of_getElem? (i := 18) rfl))))))))))))))))
theorem q619 : (.code y_Nm_power prog_1_method_42_code 4 (some .int) : Cond) ∈ TB := List.mem_append_right _ (List.mem_append_right _ (List.mem_append_right _ (List.mem_append_right _ (List.mem_append_right _ (List.mem_append_right _ (List.mem_append_right _ (List.mem_append_right _ (List.mem_append_right _ (List.mem_append_right _ (List.mem_append_right _ (List.mem_append_right _ (List.mem_append_right _ (List.mem_append_right _ (List.mem_append_right _ (List.mem_append_left _ (List.mem_of_getElem? (i := 19) rfl))))))))))))))))
theorem q620 : (.methodLink R_Nm 243 y_Moment_welcomeDishes : Cond) ∈ TB := List.mem_append_right _ (List.mem_append_right _ (List.mem_append_right _ (List.mem_append_right _ (List.mem_append_right _ (List.mem_append_right _ (List.mem_append_right _ (List.mem_append_right _ (List.mem_append_right _ (List.mem_append_right _ (List.mem_append_right _ (List.mem_append_right _ (List.mem_append_right _ (List.mem_append_right _ (List.mem_append_right _ (List.mem_append_left _ (List.mem_of_getElem? (i := 20) rfl))))))))))))))))
theorem q621 : (.instanceMethod y_Moment_welcomeDishes : Cond) ∈ TB := List.mem_append_right _ (List.mem_append_right _ (List.mem_append_right _ (List.mem_append_right _ (List.mem_append_right _ (List.mem_append_right _ (List.mem_append_right _ (List.mem_append_right _ (List.mem_append_right _ (List.mem_append_right _ (List.mem_append_right _ (List.mem_append_right _ (List.mem_append_right _ (List.mem_append_right _ (List.mem_append_right _ (List.mem_append_left _ (List.mem_of_getElem? (i := 21) rfl))))))))))))))))
theorem q622 : (.selects R_Moment y_Moment_welcomeDishes y_Moment_welcomeDishes : Cond) ∈ TB := List.mem_append_right _ (List.mem_append_right _ (List.mem_append_right _ (List.mem_append_right _ (List.mem_append_right _ (List.mem_append_right _ (List.mem_append_right _ (List.mem_append_right _ (List.mem_append_right _ (List.mem_append_right _ (List.mem_append_right _ (List.mem_append_right _ (List.mem_append_right _ (List.mem_append_right _ (List.mem_append_right _ (List.mem_append_left _ (List.mem_of_getElem? (i := 22) rfl))))))))))))))))
theorem q623 : (.code y_Moment_welcomeDishes prog_3_method_22_code 3 (some .int) : Cond) ∈ TB := List.mem_append_right _ (List.mem_append_right _ (List.mem_append_right _ (List.mem_append_right _ (List.mem_append_right _ (List.mem_append_right _ (List.mem_append_right _ (List.mem_append_right _ (List.mem_append_right _ (List.mem_append_right _ (List.mem_append_right _ (List.mem_append_right _ (List.mem_append_right _ (List.mem_append_right _ (List.mem_append_right _ (List.mem_append_left _ (List.mem_of_getElem? (i := 23) rfl))))))))))))))))
theorem q624 : (.methodLink R_Nm 246 y_Nm_commonDivisor : Cond) ∈ TB := List.mem_append_right _ (List.mem_append_right _ (List.mem_append_right _ (List.mem_append_right _ (List.mem_append_right _ (List.mem_append_right _ (List.mem_append_right _ (List.mem_append_right _ (List.mem_append_right _ (List.mem_append_right _ (List.mem_append_right _ (List.mem_append_right _ (List.mem_append_right _ (List.mem_append_right _ (List.mem_append_right _ (List.mem_append_left _ (List.mem_of_getElem? (i := 24) rfl))))))))))))))))
theorem q625 : (.static y_Nm_commonDivisor : Cond) ∈ TB := List.mem_append_right _ (List.mem_append_right _ (List.mem_append_right _ (List.mem_append_right _ (List.mem_append_right _ (List.mem_append_right _ (List.mem_append_right _ (List.mem_append_right _ (List.mem_append_right _ (List.mem_append_right _ (List.mem_append_right _ (List.mem_append_right _ (List.mem_append_right _ (List.mem_append_right _ (List.mem_append_right _ (List.mem_append_left _ (List.mem_of_getElem? (i := 25) rfl))))))))))))))))
theorem q626 : (.code y_Nm_commonDivisor prog_1_method_43_code 6 (some .int) : Cond) ∈ TB := List.mem_append_right _ (List.mem_append_right _ (List.mem_append_right _ (List.mem_append_right _ (List.mem_append_right _ (List.mem_append_right _ (List.mem_append_right _ (List.mem_append_right _ (List.mem_append_right _ (List.mem_append_right _ (List.mem_append_right _ (List.mem_append_right _ (List.mem_append_right _ (List.mem_append_right _ (List.mem_append_right _ (List.mem_append_left _ (List.mem_of_getElem? (i := 26) rfl))))))))))))))))
theorem q627 : (.methodLink R_Nm 249 y_Math_max_7cf53 : Cond) ∈ TB := List.mem_append_right _ (List.mem_append_right _ (List.mem_append_right _ (List.mem_append_right _ (List.mem_append_right _ (List.mem_append_right _ (List.mem_append_right _ (List.mem_append_right _ (List.mem_append_right _ (List.mem_append_right _ (List.mem_append_right _ (List.mem_append_right _ (List.mem_append_right _ (List.mem_append_right _ (List.mem_append_right _ (List.mem_append_left _ (List.mem_of_getElem? (i := 27) rfl))))))))))))))))
theorem q628 : (.methodLink R_law 125 y_Nm_evening : Cond) ∈ TB := List.mem_append_right _ (List.mem_append_right _ (List.mem_append_right _ (List.mem_append_right _ (List.mem_append_right _ (List.mem_append_right _ (List.mem_append_right _ (List.mem_append_right _ (List.mem_append_right _ (List.mem_append_right _ (List.mem_append_right _ (List.mem_append_right _ (List.mem_append_right _ (List.mem_append_right _ (List.mem_append_right _ (List.mem_append_left _ (List.mem_of_getElem? (i := 28) rfl))))))))))))))))
theorem q629 : (.instanceMethod y_Nm_evening : Cond) ∈ TB := List.mem_append_right _ (List.mem_append_right _ (List.mem_append_right _ (List.mem_append_right _ (List.mem_append_right _ (List.mem_append_right _ (List.mem_append_right _ (List.mem_append_right _ (List.mem_append_right _ (List.mem_append_right _ (List.mem_append_right _ (List.mem_append_right _ (List.mem_append_right _ (List.mem_append_right _ (List.mem_append_right _ (List.mem_append_left _ (List.mem_of_getElem? (i := 29) rfl))))))))))))))))
theorem q630 : (.selects R_Nm y_Nm_evening y_Nm_evening : Cond) ∈ TB := List.mem_append_right _ (List.mem_append_right _ (List.mem_append_right _ (List.mem_append_right _ (List.mem_append_right _ (List.mem_append_right _ (List.mem_append_right _ (List.mem_append_right _ (List.mem_append_right _ (List.mem_append_right _ (List.mem_append_right _ (List.mem_append_right _ (List.mem_append_right _ (List.mem_append_right _ (List.mem_append_right _ (List.mem_append_left _ (List.mem_of_getElem? (i := 30) rfl))))))))))))))))
theorem q631 : (.code y_Nm_evening prog_1_method_29_code 5 (some .int) : Cond) ∈ TB := List.mem_append_right _ (List.mem_append_right _ (List.mem_append_right _ (List.mem_append_right _ (List.mem_append_right _ (List.mem_append_right _ (List.mem_append_right _ (List.mem_append_right _ (List.mem_append_right _ (List.mem_append_right _ (List.mem_append_right _ (List.mem_append_right _ (List.mem_append_right _ (List.mem_append_right _ (List.mem_append_right _ (List.mem_append_left _ (List.mem_of_getElem? (i := 31) rfl))))))))))))))))
theorem q632 : (.methodLink R_Nm 254 y_Table_copyFrom : Cond) ∈ TB := List.mem_append_right _ (List.mem_append_right _ (List.mem_append_right _ (List.mem_append_right _ (List.mem_append_right _ (List.mem_append_right _ (List.mem_append_right _ (List.mem_append_right _ (List.mem_append_right _ (List.mem_append_right _ (List.mem_append_right _ (List.mem_append_right _ (List.mem_append_right _ (List.mem_append_right _ (List.mem_append_right _ (List.mem_append_left _ (List.mem_of_getElem? (i := 32) rfl))))))))))))))))
theorem q633 : (.methodLink R_Nm 257 y_Nm_drawOf : Cond) ∈ TB := List.mem_append_right _ (List.mem_append_right _ (List.mem_append_right _ (List.mem_append_right _ (List.mem_append_right _ (List.mem_append_right _ (List.mem_append_right _ (List.mem_append_right _ (List.mem_append_right _ (List.mem_append_right _ (List.mem_append_right _ (List.mem_append_right _ (List.mem_append_right _ (List.mem_append_right _ (List.mem_append_right _ (List.mem_append_left _ (List.mem_of_getElem? (i := 33) rfl))))))))))))))))
theorem q634 : (.static y_Nm_drawOf : Cond) ∈ TB := List.mem_append_right _ (List.mem_append_right _ (List.mem_append_right _ (List.mem_append_right _ (List.mem_append_right _ (List.mem_append_right _ (List.mem_append_right _ (List.mem_append_right _ (List.mem_append_right _ (List.mem_append_right _ (List.mem_append_right _ (List.mem_append_right _ (List.mem_append_right _ (List.mem_append_right _ (List.mem_append_right _ (List.mem_append_left _ (List.mem_of_getElem? (i := 34) rfl))))))))))))))))
theorem q635 : (.code y_Nm_drawOf prog_1_method_40_code 4 (some .int) : Cond) ∈ TB := List.mem_append_right _ (List.mem_append_right _ (List.mem_append_right _ (List.mem_append_right _ (List.mem_append_right _ (List.mem_append_right _ (List.mem_append_right _ (List.mem_append_right _ (List.mem_append_right _ (List.mem_append_right _ (List.mem_append_right _ (List.mem_append_right _ (List.mem_append_right _ (List.mem_append_right _ (List.mem_append_right _ (List.mem_append_left _ (List.mem_of_getElem? (i := 35) rfl))))))))))))))))
theorem q636 : (.constantLong R_Nm 289 (7919) : Cond) ∈ TB := List.mem_append_right _ (List.mem_append_right _ (List.mem_append_right _ (List.mem_append_right _ (List.mem_append_right _ (List.mem_append_right _ (List.mem_append_right _ (List.mem_append_right _ (List.mem_append_right _ (List.mem_append_right _ (List.mem_append_right _ (List.mem_append_right _ (List.mem_append_right _ (List.mem_append_right _ (List.mem_append_right _ (List.mem_append_left _ (List.mem_of_getElem? (i := 36) rfl))))))))))))))))
theorem q637 : (.constantLong R_Nm 291 (6151) : Cond) ∈ TB := List.mem_append_right _ (List.mem_append_right _ (List.mem_append_right _ (List.mem_append_right _ (List.mem_append_right _ (List.mem_append_right _ (List.mem_append_right _ (List.mem_append_right _ (List.mem_append_right _ (List.mem_append_right _ (List.mem_append_right _ (List.mem_append_right _ (List.mem_append_right _ (List.mem_append_right _ (List.mem_append_right _ (List.mem_append_left _ (List.mem_of_getElem? (i := 37) rfl))))))))))))))))
theorem q638 : (.constantLong R_Nm 293 (65521) : Cond) ∈ TB := List.mem_append_right _ (List.mem_append_right _ (List.mem_append_right _ (List.mem_append_right _ (List.mem_append_right _ (List.mem_append_right _ (List.mem_append_right _ (List.mem_append_right _ (List.mem_append_right _ (List.mem_append_right _ (List.mem_append_right _ (List.mem_append_right _ (List.mem_append_right _ (List.mem_append_right _ (List.mem_append_right _ (List.mem_append_left _ (List.mem_of_getElem? (i := 38) rfl))))))))))))))))
theorem q639 : (.constantLong R_Nm 295 (2) : Cond) ∈ TB := List.mem_append_right _ (List.mem_append_right _ (List.mem_append_right _ (List.mem_append_right _ (List.mem_append_right _ (List.mem_append_right _ (List.mem_append_right _ (List.mem_append_right _ (List.mem_append_right _ (List.mem_append_right _ (List.mem_append_right _ (List.mem_append_right _ (List.mem_append_right _ (List.mem_append_right _ (List.mem_append_right _ (List.mem_append_left _ (List.mem_of_getElem? (i := 39) rfl))))))))))))))))
theorem q640 : (.methodLink R_Nm 260 y_Nm_pretend : Cond) ∈ TB := List.mem_append_right _ (List.mem_append_right _ (List.mem_append_right _ (List.mem_append_right _ (List.mem_append_right _ (List.mem_append_right _ (List.mem_append_right _ (List.mem_append_right _ (List.mem_append_right _ (List.mem_append_right _ (List.mem_append_right _ (List.mem_append_right _ (List.mem_append_right _ (List.mem_append_right _ (List.mem_append_right _ (List.mem_append_right _ (List.mem_append_left _ (List.mem_of_getElem? (i := 0) rfl)))))))))))))))))
theorem q641 : (.instanceMethod y_Nm_pretend : Cond) ∈ TB := List.mem_append_right _ (List.mem_append_right _ (List.mem_append_right _ (List.mem_append_right _ (List.mem_append_right _ (List.mem_append_right _ (List.mem_append_right _ (List.mem_append_right _ (List.mem_append_right _ (List.mem_append_right _ (List.mem_append_right _ (List.mem_append_right _ (List.mem_append_right _ (List.mem_append_right _ (List.mem_append_right _ (List.mem_append_right _ (List.mem_append_left _ (List.mem_of_getElem? (i := 1) rfl)))))))))))))))))
theorem q642 : (.code y_Nm_pretend prog_1_method_39_code 5 none : Cond) ∈ TB := List.mem_append_right _ (List.mem_append_right _ (List.mem_append_right _ (List.mem_append_right _ (List.mem_append_right _ (List.mem_append_right _ (List.mem_append_right _ (List.mem_append_right _ (List.mem_append_right _ (List.mem_append_right _ (List.mem_append_right _ (List.mem_append_right _ (List.mem_append_right _ (List.mem_append_right _ (List.mem_append_right _ (List.mem_append_right _ (List.mem_append_left _ (List.mem_of_getElem? (i := 2) rfl)))))))))))))))))
theorem q643 : (.methodLink R_Nm 286 y_Moment_leastLiked : Cond) ∈ TB := List.mem_append_right _ (List.mem_append_right _ (List.mem_append_right _ (List.mem_append_right _ (List.mem_append_right _ (List.mem_append_right _ (List.mem_append_right _ (List.mem_append_right _ (List.mem_append_right _ (List.mem_append_right _ (List.mem_append_right _ (List.mem_append_right _ (List.mem_append_right _ (List.mem_append_right _ (List.mem_append_right _ (List.mem_append_right _ (List.mem_append_left _ (List.mem_of_getElem? (i := 3) rfl)))))))))))))))))
theorem q644 : (.methodLink R_law 129 y_Nm_keep : Cond) ∈ TB := List.mem_append_right _ (List.mem_append_right _ (List.mem_append_right _ (List.mem_append_right _ (List.mem_append_right _ (List.mem_append_right _ (List.mem_append_right _ (List.mem_append_right _ (List.mem_append_right _ (List.mem_append_right _ (List.mem_append_right _ (List.mem_append_right _ (List.mem_append_right _ (List.mem_append_right _ (List.mem_append_right _ (List.mem_append_right _ (List.mem_append_left _ (List.mem_of_getElem? (i := 4) rfl)))))))))))))))))
theorem q645 : (.instanceMethod y_Nm_keep : Cond) ∈ TB := List.mem_append_right _ (List.mem_append_right _ (List.mem_append_right _ (List.mem_append_right _ (List.mem_append_right _ (List.mem_append_right _ (List.mem_append_right _ (List.mem_append_right _ (List.mem_append_right _ (List.mem_append_right _ (List.mem_append_right _ (List.mem_append_right _ (List.mem_append_right _ (List.mem_append_right _ (List.mem_append_right _ (List.mem_append_right _ (List.mem_append_left _ (List.mem_of_getElem? (i := 5) rfl)))))))))))))))))
theorem q646 : (.selects R_Nm y_Nm_keep y_Nm_keep : Cond) ∈ TB := List.mem_append_right _ (List.mem_append_right _ (List.mem_append_right _ (List.mem_append_right _ (List.mem_append_right _ (List.mem_append_right _ (List.mem_append_right _ (List.mem_append_right _ (List.mem_append_right _ (List.mem_append_right _ (List.mem_append_right _ (List.mem_append_right _ (List.mem_append_right _ (List.mem_append_right _ (List.mem_append_right _ (List.mem_append_right _ (List.mem_append_left _ (List.mem_of_getElem? (i := 6) rfl)))))))))))))))))
theorem q647 : (.code y_Nm_keep prog_1_method_30_code 1 (some .int) : Cond) ∈ TB := List.mem_append_right _ (List.mem_append_right _ (List.mem_append_right _ (List.mem_append_right _ (List.mem_append_right _ (List.mem_append_right _ (List.mem_append_right _ (List.mem_append_right _ (List.mem_append_right _ (List.mem_append_right _ (List.mem_append_right _ (List.mem_append_right _ (List.mem_append_right _ (List.mem_append_right _ (List.mem_append_right _ (List.mem_append_right _ (List.mem_append_left _ (List.mem_of_getElem? (i := 7) rfl)))))))))))))))))
theorem q648 : (.methodLink R_law 133 y_Nm_back : Cond) ∈ TB := List.mem_append_right _ (List.mem_append_right _ (List.mem_append_right _ (List.mem_append_right _ (List.mem_append_right _ (List.mem_append_right _ (List.mem_append_right _ (List.mem_append_right _ (List.mem_append_right _ (List.mem_append_right _ (List.mem_append_right _ (List.mem_append_right _ (List.mem_append_right _ (List.mem_append_right _ (List.mem_append_right _ (List.mem_append_right _ (List.mem_append_left _ (List.mem_of_getElem? (i := 8) rfl)))))))))))))))))
theorem q649 : (.instanceMethod y_Nm_back : Cond) ∈ TB := List.mem_append_right _ (List.mem_append_right _ (List.mem_append_right _ (List.mem_append_right _ (List.mem_append_right _ (List.mem_append_right _ (List.mem_append_right _ (List.mem_append_right _ (List.mem_append_right _ (List.mem_append_right _ (List.mem_append_right _ (List.mem_append_right _ (List.mem_append_right _ (List.mem_append_right _ (List.mem_append_right _ (List.mem_append_right _ (List.mem_append_left _ (List.mem_of_getElem? (i := 9) rfl)))))))))))))))))
theorem q650 : (.selects R_Nm y_Nm_back y_Nm_back : Cond) ∈ TB := List.mem_append_right _ (List.mem_append_right _ (List.mem_append_right _ (List.mem_append_right _ (List.mem_append_right _ (List.mem_append_right _ (List.mem_append_right _ (List.mem_append_right _ (List.mem_append_right _ (List.mem_append_right _ (List.mem_append_right _ (List.mem_append_right _ (List.mem_append_right _ (List.mem_append_right _ (List.mem_append_right _ (List.mem_append_right _ (List.mem_append_left _ (List.mem_of_getElem? (i := 10) rfl)))))))))))))))))
theorem q651 : (.code y_Nm_back prog_1_method_31_code 1 (some .int) : Cond) ∈ TB := List.mem_append_right _ (List.mem_append_right _ (List.mem_append_right _ (List.mem_append_right _ (List.mem_append_right _ (List.mem_append_right _ (List.mem_append_right _ (List.mem_append_right _ (List.mem_append_right _ (List.mem_append_right _ (List.mem_append_right _ (List.mem_append_right _ (List.mem_append_right _ (List.mem_append_right _ (List.mem_append_right _ (List.mem_append_right _ (List.mem_append_left _ (List.mem_of_getElem? (i := 11) rfl)))))))))))))))))
theorem q652 : (.methodLink R_law 137 y_Nm_count : Cond) ∈ TB := List.mem_append_right _ (List.mem_append_right _ (List.mem_append_right _ (List.mem_append_right _ (List.mem_append_right _ (List.mem_append_right _ (List.mem_append_right _ (List.mem_append_right _ (List.mem_append_right _ (List.mem_append_right _ (List.mem_append_right _ (List.mem_append_right _ (List.mem_append_right _ (List.mem_append_right _ (List.mem_append_right _ (List.mem_append_right _ (List.mem_append_left _ (List.mem_of_getElem? (i := 12) rfl)))))))))))))))))
theorem q653 : (.instanceMethod y_Nm_count : Cond) ∈ TB := List.mem_append_right _ (List.mem_append_right _ (List.mem_append_right _ (List.mem_append_right _ (List.mem_append_right _ (List.mem_append_right _ (List.mem_append_right _ (List.mem_append_right _ (List.mem_append_right _ (List.mem_append_right _ (List.mem_append_right _ (List.mem_append_right _ (List.mem_append_right _ (List.mem_append_right _ (List.mem_append_right _ (List.mem_append_right _ (List.mem_append_left _ (List.mem_of_getElem? (i := 13) rfl)))))))))))))))))
theorem q654 : (.selects R_Nm y_Nm_count y_Nm_count : Cond) ∈ TB := List.mem_append_right _ (List.mem_append_right _ (List.mem_append_right _ (List.mem_append_right _ (List.mem_append_right _ (List.mem_append_right _ (List.mem_append_right _ (List.mem_append_right _ (List.mem_append_right _ (List.mem_append_right _ (List.mem_append_right _ (List.mem_append_right _ (List.mem_append_right _ (List.mem_append_right _ (List.mem_append_right _ (List.mem_append_right _ (List.mem_append_left _ (List.mem_of_getElem? (i := 14) rfl)))))))))))))))))
theorem q655 : (.code y_Nm_count prog_1_method_32_code 2 (some .int) : Cond) ∈ TB := List.mem_append_right _ (List.mem_append_right _ (List.mem_append_right _ (List.mem_append_right _ (List.mem_append_right _ (List.mem_append_right _ (List.mem_append_right _ (List.mem_append_right _ (List.mem_append_right _ (List.mem_append_right _ (List.mem_append_right _ (List.mem_append_right _ (List.mem_append_right _ (List.mem_append_right _ (List.mem_append_right _ (List.mem_append_right _ (List.mem_append_left _ (List.mem_of_getElem? (i := 15) rfl)))))))))))))))))
theorem q656 : (.classLink R_law 10 R_Mo : Cond) ∈ TB := List.mem_append_right _ (List.mem_append_right _ (List.mem_append_right _ (List.mem_append_right _ (List.mem_append_right _ (List.mem_append_right _ (List.mem_append_right _ (List.mem_append_right _ (List.mem_append_right _ (List.mem_append_right _ (List.mem_append_right _ (List.mem_append_right _ (List.mem_append_right _ (List.mem_append_right _ (List.mem_append_right _ (List.mem_append_right _ (List.mem_append_left _ (List.mem_of_getElem? (i := 16) rfl)))))))))))))))))
theorem q657 : (.instantiable R_Mo 15 : Cond) ∈ TB := List.mem_append_right _ (List.mem_append_right _ (List.mem_append_right _ (List.mem_append_right _ (List.mem_append_right _ (List.mem_append_right _ (List.mem_append_right _ (List.mem_append_right _ (List.mem_append_right _ (List.mem_append_right _ (List.mem_append_right _ (List.mem_append_right _ (List.mem_append_right _ (List.mem_append_right _ (List.mem_append_right _ (List.mem_append_right _ (List.mem_append_left _ (List.mem_of_getElem? (i := 17) rfl)))))))))))))))))
theorem q658 : (.methodLink R_law 12 y_Mo_init : Cond) ∈ TB := List.mem_append_right _ (List.mem_append_right _ (List.mem_append_right _ (List.mem_append_right _ (List.mem_append_right _ (List.mem_append_right _ (List.mem_append_right _ (List.mem_append_right _ (List.mem_append_right _ (List.mem_append_right _ (List.mem_append_right _ (List.mem_append_right _ (List.mem_append_right _ (List.mem_append_right _ (List.mem_append_right _ (List.mem_append_right _ (List.mem_append_left _ (List.mem_of_getElem? (i := 18) rfl)))))))))))))))))
theorem q659 : (.instanceMethod y_Mo_init : Cond) ∈ TB := List.mem_append_right _ (List.mem_append_right _ (List.mem_append_right _ (List.mem_append_right _ (List.mem_append_right _ (List.mem_append_right _ (List.mem_append_right _ (List.mem_append_right _ (List.mem_append_right _ (List.mem_append_right _ (List.mem_append_right _ (List.mem_append_right _ (List.mem_append_right _ (List.mem_append_right _ (List.mem_append_right _ (List.mem_append_right _ (List.mem_append_left _ (List.mem_of_getElem? (i := 19) rfl)))))))))))))))))
theorem q660 : (.code y_Mo_init prog_10_method_1_code 1 none : Cond) ∈ TB := List.mem_append_right _ (List.mem_append_right _ (List.mem_append_right _ (List.mem_append_right _ (List.mem_append_right _ (List.mem_append_right _ (List.mem_append_right _ (List.mem_append_right _ (List.mem_append_right _ (List.mem_append_right _ (List.mem_append_right _ (List.mem_append_right _ (List.mem_append_right _ (List.mem_append_right _ (List.mem_append_right _ (List.mem_append_right _ (List.mem_append_left _ (List.mem_of_getElem? (i := 20) rfl)))))))))))))))))
theorem q661 : (.methodLink R_Mo 1 objectInit : Cond) ∈ TB := List.mem_append_right _ (List.mem_append_right _ (List.mem_append_right _ (List.mem_append_right _ (List.mem_append_right _ (List.mem_append_right _ (List.mem_append_right _ (List.mem_append_right _ (List.mem_append_right _ (List.mem_append_right _ (List.mem_append_right _ (List.mem_append_right _ (List.mem_append_right _ (List.mem_append_right _ (List.mem_append_right _ (List.mem_append_right _ (List.mem_append_left _ (List.mem_of_getElem? (i := 21) rfl)))))))))))))))))
theorem q662 : (.methodLink R_Mo 37 y_Mo_empty : Cond) ∈ TB := List.mem_append_right _ (List.mem_append_right _ (List.mem_append_right _ (List.mem_append_right _ (List.mem_append_right _ (List.mem_append_right _ (List.mem_append_right _ (List.mem_append_right _ (List.mem_append_right _ (List.mem_append_right _ (List.mem_append_right _ (List.mem_append_right _ (List.mem_append_right _ (List.mem_append_right _ (List.mem_append_right _ (List.mem_append_right _ (List.mem_append_left _ (List.mem_of_getElem? (i := 22) rfl)))))))))))))))))
theorem q663 : (.instanceMethod y_Mo_empty : Cond) ∈ TB := List.mem_append_right _ (List.mem_append_right _ (List.mem_append_right _ (List.mem_append_right _ (List.mem_append_right _ (List.mem_append_right _ (List.mem_append_right _ (List.mem_append_right _ (List.mem_append_right _ (List.mem_append_right _ (List.mem_append_right _ (List.mem_append_right _ (List.mem_append_right _ (List.mem_append_right _ (List.mem_append_right _ (List.mem_append_right _ (List.mem_append_left _ (List.mem_of_getElem? (i := 23) rfl)))))))))))))))))
theorem q664 : (.code y_Mo_empty prog_10_method_6_code 2 none : Cond) ∈ TB := List.mem_append_right _ (List.mem_append_right _ (List.mem_append_right _ (List.mem_append_right _ (List.mem_append_right _ (List.mem_append_right _ (List.mem_append_right _ (List.mem_append_right _ (List.mem_append_right _ (List.mem_append_right _ (List.mem_append_right _ (List.mem_append_right _ (List.mem_append_right _ (List.mem_append_right _ (List.mem_append_right _ (List.mem_append_right _ (List.mem_append_left _ (List.mem_of_getElem? (i := 24) rfl)))))))))))))))))
theorem q665 : (.methodLink R_Mo 40 y_Mo_firstGuest : Cond) ∈ TB := List.mem_append_right _ (List.mem_append_right _ (List.mem_append_right _ (List.mem_append_right _ (List.mem_append_right _ (List.mem_append_right _ (List.mem_append_right _ (List.mem_append_right _ (List.mem_append_right _ (List.mem_append_right _ (List.mem_append_right _ (List.mem_append_right _ (List.mem_append_right _ (List.mem_append_right _ (List.mem_append_right _ (List.mem_append_right _ (List.mem_append_left _ (List.mem_of_getElem? (i := 25) rfl)))))))))))))))))
theorem q666 : (.instanceMethod y_Mo_firstGuest : Cond) ∈ TB := List.mem_append_right _ (List.mem_append_right _ (List.mem_append_right _ (List.mem_append_right _ (List.mem_append_right _ (List.mem_append_right _ (List.mem_append_right _ (List.mem_append_right _ (List.mem_append_right _ (List.mem_append_right _ (List.mem_append_right _ (List.mem_append_right _ (List.mem_append_right _ (List.mem_append_right _ (List.mem_append_right _ (List.mem_append_right _ (List.mem_append_left _ (List.mem_of_getElem? (i := 26) rfl)))))))))))))))))
theorem q667 : (.code y_Mo_firstGuest prog_10_method_2_code 4 none : Cond) ∈ TB := List.mem_append_right _ (List.mem_append_right _ (List.mem_append_right _ (List.mem_append_right _ (List.mem_append_right _ (List.mem_append_right _ (List.mem_append_right _ (List.mem_append_right _ (List.mem_append_right _ (List.mem_append_right _ (List.mem_append_right _ (List.mem_append_right _ (List.mem_append_right _ (List.mem_append_right _ (List.mem_append_right _ (List.mem_append_right _ (List.mem_append_left _ (List.mem_of_getElem? (i := 27) rfl)))))))))))))))))
theorem q668 : (.methodLink R_Mo 44 y_Mo_begin : Cond) ∈ TB := List.mem_append_right _ (List.mem_append_right _ (List.mem_append_right _ (List.mem_append_right _ (List.mem_append_right _ (List.mem_append_right _ (List.mem_append_right _ (List.mem_append_right _ (List.mem_append_right _ (List.mem_append_right _ (List.mem_append_right _ (List.mem_append_right _ (List.mem_append_right _ (List.mem_append_right _ (List.mem_append_right _ (List.mem_append_right _ (List.mem_append_left _ (List.mem_of_getElem? (i := 28) rfl)))))))))))))))))
theorem q669 : (.instanceMethod y_Mo_begin : Cond) ∈ TB := List.mem_append_right _ (List.mem_append_right _ (List.mem_append_right _ (List.mem_append_right _ (List.mem_append_right _ (List.mem_append_right _ (List.mem_append_right _ (List.mem_append_right _ (List.mem_append_right _ (List.mem_append_right _ (List.mem_append_right _ (List.mem_append_right _ (List.mem_append_right _ (List.mem_append_right _ (List.mem_append_right _ (List.mem_append_right _ (List.mem_append_left _ (List.mem_of_getElem? (i := 29) rfl)))))))))))))))))
theorem q670 : (.code y_Mo_begin prog_10_method_17_code 2 none : Cond) ∈ TB := List.mem_append_right _ (List.mem_append_right _ (List.mem_append_right _ (List.mem_append_right _ (List.mem_append_right _ (List.mem_append_right _ (List.mem_append_right _ (List.mem_append_right _ (List.mem_append_right _ (List.mem_append_right _ (List.mem_append_right _ (List.mem_append_right _ (List.mem_append_right _ (List.mem_append_right _ (List.mem_append_right _ (List.mem_append_right _ (List.mem_append_left _ (List.mem_of_getElem? (i := 30) rfl)))))))))))))))))
theorem q671 : (.fieldLink R_Mo 59 "NoneMindsModel" "length" "I" : Cond) ∈ TB := List.mem_append_right _ (List.mem_append_right _ (List.mem_append_right _ (List.mem_append_right _ (List.mem_append_right _ (List.mem_append_right _ (List.mem_append_right _ (List.mem_append_right _ (List.mem_append_right _ (List.mem_append_right _ (List.mem_append_right _ (List.mem_append_right _ (List.mem_append_right _ (List.mem_append_right _ (List.mem_append_right _ (List.mem_append_right _ (List.mem_append_left _ (List.mem_of_getElem? (i := 31) rfl)))))))))))))))))
theorem q672 : (.fieldLink R_Mo 7 "NoneMindsModel" "text" "[I" : Cond) ∈ TB := List.mem_append_right _ (List.mem_append_right _ (List.mem_append_right _ (List.mem_append_right _ (List.mem_append_right _ (List.mem_append_right _ (List.mem_append_right _ (List.mem_append_right _ (List.mem_append_right _ (List.mem_append_right _ (List.mem_append_right _ (List.mem_append_right _ (List.mem_append_right _ (List.mem_append_right _ (List.mem_append_right _ (List.mem_append_right _ (List.mem_append_left _ (List.mem_of_getElem? (i := 32) rfl)))))))))))))))))
theorem q673 : (.fieldLink R_Mo 13 "NoneMindsModel" "table" "[I" : Cond) ∈ TB := List.mem_append_right _ (List.mem_append_right _ (List.mem_append_right _ (List.mem_append_right _ (List.mem_append_right _ (List.mem_append_right _ (List.mem_append_right _ (List.mem_append_right _ (List.mem_append_right _ (List.mem_append_right _ (List.mem_append_right _ (List.mem_append_right _ (List.mem_append_right _ (List.mem_append_right _ (List.mem_append_right _ (List.mem_append_right _ (List.mem_append_left _ (List.mem_of_getElem? (i := 33) rfl)))))))))))))))))
theorem q674 : (.fieldLink R_Mo 16 "NoneMindsModel" "read" "[I" : Cond) ∈ TB := List.mem_append_right _ (List.mem_append_right _ (List.mem_append_right _ (List.mem_append_right _ (List.mem_append_right _ (List.mem_append_right _ (List.mem_append_right _ (List.mem_append_right _ (List.mem_append_right _ (List.mem_append_right _ (List.mem_append_right _ (List.mem_append_right _ (List.mem_append_right _ (List.mem_append_right _ (List.mem_append_right _ (List.mem_append_right _ (List.mem_append_left _ (List.mem_of_getElem? (i := 34) rfl)))))))))))))))))
theorem q675 : (.fieldLink R_Mo 47 "NoneMindsModel" "hasItem" "Z" : Cond) ∈ TB := List.mem_append_right _ (List.mem_append_right _ (List.mem_append_right _ (List.mem_append_right _ (List.mem_append_right _ (List.mem_append_right _ (List.mem_append_right _ (List.mem_append_right _ (List.mem_append_right _ (List.mem_append_right _ (List.mem_append_right _ (List.mem_append_right _ (List.mem_append_right _ (List.mem_append_right _ (List.mem_append_right _ (List.mem_append_right _ (List.mem_append_left _ (List.mem_of_getElem? (i := 35) rfl)))))))))))))))))
theorem q676 : (.fieldLink R_Mo 19 "NoneMindsModel" "now" "[I" : Cond) ∈ TB := List.mem_append_right _ (List.mem_append_right _ (List.mem_append_right _ (List.mem_append_right _ (List.mem_append_right _ (List.mem_append_right _ (List.mem_append_right _ (List.mem_append_right _ (List.mem_append_right _ (List.mem_append_right _ (List.mem_append_right _ (List.mem_append_right _ (List.mem_append_right _ (List.mem_append_right _ (List.mem_append_right _ (List.mem_append_right _ (List.mem_append_left _ (List.mem_of_getElem? (i := 36) rfl)))))))))))))))))
theorem q677 : (.fieldLink R_Mo 22 "NoneMindsModel" "before" "[I" : Cond) ∈ TB := List.mem_append_right _ (List.mem_append_right _ (List.mem_append_right _ (List.mem_append_right _ (List.mem_append_right _ (List.mem_append_right _ (List.mem_append_right _ (List.mem_append_right _ (List.mem_append_right _ (List.mem_append_right _ (List.mem_append_right _ (List.mem_append_right _ (List.mem_append_right _ (List.mem_append_right _ (List.mem_append_right _ (List.mem_append_right _ (List.mem_append_left _ (List.mem_of_getElem? (i := 37) rfl)))))))))))))))))
theorem q678 : (.fieldLink R_Mo 104 "NoneMindsModel" "undoMany" "I" : Cond) ∈ TB := List.mem_append_right _ (List.mem_append_right _ (List.mem_append_right _ (List.mem_append_right _ (List.mem_append_right _ (List.mem_append_right _ (List.mem_append_right _ (List.mem_append_right _ (List.mem_append_right _ (List.mem_append_right _ (List.mem_append_right _ (List.mem_append_right _ (List.mem_append_right _ (List.mem_append_right _ (List.mem_append_right _ (List.mem_append_right _ (List.mem_append_left _ (List.mem_of_getElem? (i := 38) rfl)))))))))))))))))
theorem q679 : (.fieldLink R_Mo 25 "NoneMindsModel" "kept" "[I" : Cond) ∈ TB := List.mem_append_right _ (List.mem_append_right _ (List.mem_append_right _ (List.mem_append_right _ (List.mem_append_right _ (List.mem_append_right _ (List.mem_append_right _ (List.mem_append_right _ (List.mem_append_right _ (List.mem_append_right _ (List.mem_append_right _ (List.mem_append_right _ (List.mem_append_right _ (List.mem_append_right _ (List.mem_append_right _ (List.mem_append_right _ (List.mem_append_left _ (List.mem_of_getElem? (i := 39) rfl)))))))))))))))))
theorem q680 : (.fieldLink R_Mo 107 "NoneMindsModel" "keptMany" "I" : Cond) ∈ TB := List.mem_append_right _ (List.mem_append_right _ (List.mem_append_right _ (List.mem_append_right _ (List.mem_append_right _ (List.mem_append_right _ (List.mem_append_right _ (List.mem_append_right _ (List.mem_append_right _ (List.mem_append_right _ (List.mem_append_right _ (List.mem_append_right _ (List.mem_append_right _ (List.mem_append_right _ (List.mem_append_right _ (List.mem_append_right _ (List.mem_append_right _ (List.mem_append_left _ (List.mem_of_getElem? (i := 0) rfl))))))))))))))))))
theorem q681 : (.fieldLink R_Mo 28 "NoneMindsModel" "heard" "[I" : Cond) ∈ TB := List.mem_append_right _ (List.mem_append_right _ (List.mem_append_right _ (List.mem_append_right _ (List.mem_append_right _ (List.mem_append_right _ (List.mem_append_right _ (List.mem_append_right _ (List.mem_append_right _ (List.mem_append_right _ (List.mem_append_right _ (List.mem_append_right _ (List.mem_append_right _ (List.mem_append_right _ (List.mem_append_right _ (List.mem_append_right _ (List.mem_append_right _ (List.mem_append_left _ (List.mem_of_getElem? (i := 1) rfl))))))))))))))))))
theorem q682 : (.fieldLink R_Mo 101 "NoneMindsModel" "heardMany" "I" : Cond) ∈ TB := List.mem_append_right _ (List.mem_append_right _ (List.mem_append_right _ (List.mem_append_right _ (List.mem_append_right _ (List.mem_append_right _ (List.mem_append_right _ (List.mem_append_right _ (List.mem_append_right _ (List.mem_append_right _ (List.mem_append_right _ (List.mem_append_right _ (List.mem_append_right _ (List.mem_append_right _ (List.mem_append_right _ (List.mem_append_right _ (List.mem_append_right _ (List.mem_append_left _ (List.mem_of_getElem? (i := 2) rfl))))))))))))))))))
theorem q683 : (.fieldLink R_Mo 63 "NoneMindsModel" "spot" "I" : Cond) ∈ TB := List.mem_append_right _ (List.mem_append_right _ (List.mem_append_right _ (List.mem_append_right _ (List.mem_append_right _ (List.mem_append_right _ (List.mem_append_right _ (List.mem_append_right _ (List.mem_append_right _ (List.mem_append_right _ (List.mem_append_right _ (List.mem_append_right _ (List.mem_append_right _ (List.mem_append_right _ (List.mem_append_right _ (List.mem_append_right _ (List.mem_append_right _ (List.mem_append_left _ (List.mem_of_getElem? (i := 3) rfl))))))))))))))))))
theorem q684 : (.fieldLink R_Mo 31 "NoneMindsModel" "told" "[I" : Cond) ∈ TB := List.mem_append_right _ (List.mem_append_right _ (List.mem_append_right _ (List.mem_append_right _ (List.mem_append_right _ (List.mem_append_right _ (List.mem_append_right _ (List.mem_append_right _ (List.mem_append_right _ (List.mem_append_right _ (List.mem_append_right _ (List.mem_append_right _ (List.mem_append_right _ (List.mem_append_right _ (List.mem_append_right _ (List.mem_append_right _ (List.mem_append_right _ (List.mem_append_left _ (List.mem_of_getElem? (i := 4) rfl))))))))))))))))))
theorem q685 : (.fieldLink R_Mo 34 "NoneMindsModel" "vetoes" "[I" : Cond) ∈ TB := List.mem_append_right _ (List.mem_append_right _ (List.mem_append_right _ (List.mem_append_right _ (List.mem_append_right _ (List.mem_append_right _ (List.mem_append_right _ (List.mem_append_right _ (List.mem_append_right _ (List.mem_append_right _ (List.mem_append_right _ (List.mem_append_right _ (List.mem_append_right _ (List.mem_append_right _ (List.mem_append_right _ (List.mem_append_right _ (List.mem_append_right _ (List.mem_append_left _ (List.mem_of_getElem? (i := 5) rfl))))))))))))))))))
theorem q686 : (.lays R_Mo "NoneMindsModel" "length" "I" : Cond) ∈ TB := List.mem_append_right _ (List.mem_append_right _ (List.mem_append_right _ (List.mem_append_right _ (List.mem_append_right _ (List.mem_append_right _ (List.mem_append_right _ (List.mem_append_right _ (List.mem_append_right _ (List.mem_append_right _ (List.mem_append_right _ (List.mem_append_right _ (List.mem_append_right _ (List.mem_append_right _ (List.mem_append_right _ (List.mem_append_right _ (List.mem_append_right _ (List.mem_append_left _ (List.mem_of_getElem? (i := 6) rfl))))))))))))))))))
theorem q687 : (.laysFinal R_Mo "NoneMindsModel" "text" "[I" : Cond) ∈ TB := List.mem_append_right _ (List.mem_append_right _ (List.mem_append_right _ (List.mem_append_right _ (List.mem_append_right _ (List.mem_append_right _ (List.mem_append_right _ (List.mem_append_right _ (List.mem_append_right _ (List.mem_append_right _ (List.mem_append_right _ (List.mem_append_right _ (List.mem_append_right _ (List.mem_append_right _ (List.mem_append_right _ (List.mem_append_right _ (List.mem_append_right _ (List.mem_append_left _ (List.mem_of_getElem? (i := 7) rfl))))))))))))))))))
theorem q688 : (.laysFinal R_Mo "NoneMindsModel" "table" "[I" : Cond) ∈ TB := List.mem_append_right _ (List.mem_append_right _ (List.mem_append_right _ (List.mem_append_right _ (List.mem_append_right _ (List.mem_append_right _ (List.mem_append_right _ (List.mem_append_right _ (List.mem_append_right _ (List.mem_append_right _ (List.mem_append_right _ (List.mem_append_right _ (List.mem_append_right _ (List.mem_append_right _ (List.mem_append_right _ (List.mem_append_right _ (List.mem_append_right _ (List.mem_append_left _ (List.mem_of_getElem? (i := 8) rfl))))))))))))))))))
theorem q689 : (.laysFinal R_Mo "NoneMindsModel" "read" "[I" : Cond) ∈ TB := List.mem_append_right _ (List.mem_append_right _ (List.mem_append_right _ (List.mem_append_right _ (List.mem_append_right _ (List.mem_append_right _ (List.mem_append_right _ (List.mem_append_right _ (List.mem_append_right _ (List.mem_append_right _ (List.mem_append_right _ (List.mem_append_right _ (List.mem_append_right _ (List.mem_append_right _ (List.mem_append_right _ (List.mem_append_right _ (List.mem_append_right _ (List.mem_append_left _ (List.mem_of_getElem? (i := 9) rfl))))))))))))))))))
theorem q690 : (.lays R_Mo "NoneMindsModel" "hasItem" "Z" : Cond) ∈ TB := List.mem_append_right _ (List.mem_append_right _ (List.mem_append_right _ (List.mem_append_right _ (List.mem_append_right _ (List.mem_append_right _ (List.mem_append_right _ (List.mem_append_right _ (List.mem_append_right _ (List.mem_append_right _ (List.mem_append_right _ (List.mem_append_right _ (List.mem_append_right _ (List.mem_append_right _ (List.mem_append_right _ (List.mem_append_right _ (List.mem_append_right _ (List.mem_append_left _ (List.mem_of_getElem? (i := 10) rfl))))))))))))))))))
theorem q691 : (.laysFinal R_Mo "NoneMindsModel" "now" "[I" : Cond) ∈ TB := List.mem_append_right _ (List.mem_append_right _ (List.mem_append_right _ (List.mem_append_right _ (List.mem_append_right _ (List.mem_append_right _ (List.mem_append_right _ (List.mem_append_right _ (List.mem_append_right _ (List.mem_append_right _ (List.mem_append_right _ (List.mem_append_right _ (List.mem_append_right _ (List.mem_append_right _ (List.mem_append_right _ (List.mem_append_right _ (List.mem_append_right _ (List.mem_append_left _ (List.mem_of_getElem? (i := 11) rfl))))))))))))))))))
theorem q692 : (.laysFinal R_Mo "NoneMindsModel" "before" "[I" : Cond) ∈ TB := List.mem_append_right _ (List.mem_append_right _ (List.mem_append_right _ (List.mem_append_right _ (List.mem_append_right _ (List.mem_append_right _ (List.mem_append_right _ (List.mem_append_right _ (List.mem_append_right _ (List.mem_append_right _ (List.mem_append_right _ (List.mem_append_right _ (List.mem_append_right _ (List.mem_append_right _ (List.mem_append_right _ (List.mem_append_right _ (List.mem_append_right _ (List.mem_append_left _ (List.mem_of_getElem? (i := 12) rfl))))))))))))))))))
theorem q693 : (.lays R_Mo "NoneMindsModel" "undoMany" "I" : Cond) ∈ TB := List.mem_append_right _ (List.mem_append_right _ (List.mem_append_right _ (List.mem_append_right _ (List.mem_append_right _ (List.mem_append_right _ (List.mem_append_right _ (List.mem_append_right _ (List.mem_append_right _ (List.mem_append_right _ (List.mem_append_right _ (List.mem_append_right _ (List.mem_append_right _ (List.mem_append_right _ (List.mem_append_right _ (List.mem_append_right _ (List.mem_append_right _ (List.mem_append_left _ (List.mem_of_getElem? (i := 13) rfl))))))))))))))))))
theorem q694 : (.laysFinal R_Mo "NoneMindsModel" "kept" "[I" : Cond) ∈ TB := List.mem_append_right _ (List.mem_append_right _ (List.mem_append_right _ (List.mem_append_right _ (List.mem_append_right _ (List.mem_append_right _ (List.mem_append_right _ (List.mem_append_right _ (List.mem_append_right _ (List.mem_append_right _ (List.mem_append_right _ (List.mem_append_right _ (List.mem_append_right _ (List.mem_append_right _ (List.mem_append_right _ (List.mem_append_right _ (List.mem_append_right _ (List.mem_append_left _ (List.mem_of_getElem? (i := 14) rfl))))))))))))))))))
theorem q695 : (.lays R_Mo "NoneMindsModel" "keptMany" "I" : Cond) ∈ TB := List.mem_append_right _ (List.mem_append_right _ (List.mem_append_right _ (List.mem_append_right _ (List.mem_append_right _ (List.mem_append_right _ (List.mem_append_right _ (List.mem_append_right _ (List.mem_append_right _ (List.mem_append_right _ (List.mem_append_right _ (List.mem_append_right _ (List.mem_append_right _ (List.mem_append_right _ (List.mem_append_right _ (List.mem_append_right _ (List.mem_append_right _ (List.mem_append_left _ (List.mem_of_getElem? (i := 15) rfl))))))))))))))))))
theorem q696 : (.laysFinal R_Mo "NoneMindsModel" "heard" "[I" : Cond) ∈ TB := List.mem_append_right _ (List.mem_append_right _ (List.mem_append_right _ (List.mem_append_right _ (List.mem_append_right _ (List.mem_append_right _ (List.mem_append_right _ (List.mem_append_right _ (List.mem_append_right _ (List.mem_append_right _ (List.mem_append_right _ (List.mem_append_right _ (List.mem_append_right _ (List.mem_append_right _ (List.mem_append_right _ (List.mem_append_right _ (List.mem_append_right _ (List.mem_append_left _ (List.mem_of_getElem? (i := 16) rfl))))))))))))))))))
theorem q697 : (.lays R_Mo "NoneMindsModel" "heardMany" "I" : Cond) ∈ TB := List.mem_append_right _ (List.mem_append_right _ (List.mem_append_right _ (List.mem_append_right _ (List.mem_append_right _ (List.mem_append_right _ (List.mem_append_right _ (List.mem_append_right _ (List.mem_append_right _ (List.mem_append_right _ (List.mem_append_right _ (List.mem_append_right _ (List.mem_append_right _ (List.mem_append_right _ (List.mem_append_right _ (List.mem_append_right _ (List.mem_append_right _ (List.mem_append_left _ (List.mem_of_getElem? (i := 17) rfl))))))))))))))))))
theorem q698 : (.lays R_Mo "NoneMindsModel" "spot" "I" : Cond) ∈ TB := List.mem_append_right _ (List.mem_append_right _ (List.mem_append_right _ (List.mem_append_right _ (List.mem_append_right _ (List.mem_append_right _ (List.mem_append_right _ (List.mem_append_right _ (List.mem_append_right _ (List.mem_append_right _ (List.mem_append_right _ (List.mem_append_right _ (List.mem_append_right _ (List.mem_append_right _ (List.mem_append_right _ (List.mem_append_right _ (List.mem_append_right _ (List.mem_append_left _ (List.mem_of_getElem? (i := 18) rfl))))))))))))))))))
theorem q699 : (.laysFinal R_Mo "NoneMindsModel" "told" "[I" : Cond) ∈ TB := List.mem_append_right _ (List.mem_append_right _ (List.mem_append_right _ (List.mem_append_right _ (List.mem_append_right _ (List.mem_append_right _ (List.mem_append_right _ (List.mem_append_right _ (List.mem_append_right _ (List.mem_append_right _ (List.mem_append_right _ (List.mem_append_right _ (List.mem_append_right _ (List.mem_append_right _ (List.mem_append_right _ (List.mem_append_right _ (List.mem_append_right _ (List.mem_append_left _ (List.mem_of_getElem? (i := 19) rfl))))))))))))))))))
theorem q700 : (.laysFinal R_Mo "NoneMindsModel" "vetoes" "[I" : Cond) ∈ TB := List.mem_append_right _ (List.mem_append_right _ (List.mem_append_right _ (List.mem_append_right _ (List.mem_append_right _ (List.mem_append_right _ (List.mem_append_right _ (List.mem_append_right _ (List.mem_append_right _ (List.mem_append_right _ (List.mem_append_right _ (List.mem_append_right _ (List.mem_append_right _ (List.mem_append_right _ (List.mem_append_right _ (List.mem_append_right _ (List.mem_append_right _ (List.mem_append_left _ (List.mem_of_getElem? (i := 20) rfl))))))))))))))))))
theorem q701 : (.methodLink R_law 17 y_Mo_write : Cond) ∈ TB := List.mem_append_right _ (List.mem_append_right _ (List.mem_append_right _ (List.mem_append_right _ (List.mem_append_right _ (List.mem_append_right _ (List.mem_append_right _ (List.mem_append_right _ (List.mem_append_right _ (List.mem_append_right _ (List.mem_append_right _ (List.mem_append_right _ (List.mem_append_right _ (List.mem_append_right _ (List.mem_append_right _ (List.mem_append_right _ (List.mem_append_right _ (List.mem_append_left _ (List.mem_of_getElem? (i := 21) rfl))))))))))))))))))
theorem q702 : (.instanceMethod y_Mo_write : Cond) ∈ TB := List.mem_append_right _ (List.mem_append_right _ (List.mem_append_right _ (List.mem_append_right _ (List.mem_append_right _ (List.mem_append_right _ (List.mem_append_right _ (List.mem_append_right _ (List.mem_append_right _ (List.mem_append_right _ (List.mem_append_right _ (List.mem_append_right _ (List.mem_append_right _ (List.mem_append_right _ (List.mem_append_right _ (List.mem_append_right _ (List.mem_append_right _ (List.mem_append_left _ (List.mem_of_getElem? (i := 22) rfl))))))))))))))))))
theorem q703 : (.selects R_Mo y_Mo_write y_Mo_write : Cond) ∈ TB := List.mem_append_right _ (List.mem_append_right _ (List.mem_append_right _ (List.mem_append_right _ (List.mem_append_right _ (List.mem_append_right _ (List.mem_append_right _ (List.mem_append_right _ (List.mem_append_right _ (List.mem_append_right _ (List.mem_append_right _ (List.mem_append_right _ (List.mem_append_right _ (List.mem_append_right _ (List.mem_append_right _ (List.mem_append_right _ (List.mem_append_right _ (List.mem_append_left _ (List.mem_of_getElem? (i := 23) rfl))))))))))))))))))
theorem q704 : (.code y_Mo_write prog_10_method_7_code 2 (some .int) : Cond) ∈ TB := List.mem_append_right _ (List.mem_append_right _ (List.mem_append_right _ (List.mem_append_right _ (List.mem_append_right _ (List.mem_append_right _ (List.mem_append_right _ (List.mem_append_right _ (List.mem_append_right _ (List.mem_append_right _ (List.mem_append_right _ (List.mem_append_right _ (List.mem_append_right _ (List.mem_append_right _ (List.mem_append_right _ (List.mem_append_right _ (List.mem_append_right _ (List.mem_append_left _ (List.mem_of_getElem? (i := 24) rfl))))))))))))))))))
theorem q705 : (.constantLong R_Mo 51 (32) : Cond) ∈ TB := List.mem_append_right _ (List.mem_append_right _ (List.mem_append_right _ (List.mem_append_right _ (List.mem_append_right _ (List.mem_append_right _ (List.mem_append_right _ (List.mem_append_right _ (List.mem_append_right _ (List.mem_append_right _ (List.mem_append_right _ (List.mem_append_right _ (List.mem_append_right _ (List.mem_append_right _ (List.mem_append_right _ (List.mem_append_right _ (List.mem_append_right _ (List.mem_append_left _ (List.mem_of_getElem? (i := 25) rfl))))))))))))))))))
theorem q706 : (.constantLong R_Mo 53 (126) : Cond) ∈ TB := List.mem_append_right _ (List.mem_append_right _ (List.mem_append_right _ (List.mem_append_right _ (List.mem_append_right _ (List.mem_append_right _ (List.mem_append_right _ (List.mem_append_right _ (List.mem_append_right _ (List.mem_append_right _ (List.mem_append_right _ (List.mem_append_right _ (List.mem_append_right _ (List.mem_append_right _ (List.mem_append_right _ (List.mem_append_right _ (List.mem_append_right _ (List.mem_append_left _ (List.mem_of_getElem? (i := 26) rfl))))))))))))))))))
theorem q707 : (.methodLink R_Mo 55 y_Mo_in : Cond) ∈ TB := List.mem_append_right _ (List.mem_append_right _ (List.mem_append_right _ (List.mem_append_right _ (List.mem_append_right _ (List.mem_append_right _ (List.mem_append_right _ (List.mem_append_right _ (List.mem_append_right _ (List.mem_append_right _ (List.mem_append_right _ (List.mem_append_right _ (List.mem_append_right _ (List.mem_append_right _ (List.mem_append_right _ (List.mem_append_right _ (List.mem_append_right _ (List.mem_append_left _ (List.mem_of_getElem? (i := 27) rfl))))))))))))))))))
theorem q708 : (.static y_Mo_in : Cond) ∈ TB := List.mem_append_right _ (List.mem_append_right _ (List.mem_append_right _ (List.mem_append_right _ (List.mem_append_right _ (List.mem_append_right _ (List.mem_append_right _ (List.mem_append_right _ (List.mem_append_right _ (List.mem_append_right _ (List.mem_append_right _ (List.mem_append_right _ (List.mem_append_right _ (List.mem_append_right _ (List.mem_append_right _ (List.mem_append_right _ (List.mem_append_right _ (List.mem_append_left _ (List.mem_of_getElem? (i := 28) rfl))))))))))))))))))
theorem q709 : (.code y_Mo_in prog_10_method_3_code 6 (some .boolean) : Cond) ∈ TB := List.mem_append_right _ (List.mem_append_right _ (List.mem_append_right _ (List.mem_append_right _ (List.mem_append_right _ (List.mem_append_right _ (List.mem_append_right _ (List.mem_append_right _ (List.mem_append_right _ (List.mem_append_right _ (List.mem_append_right _ (List.mem_append_right _ (List.mem_append_right _ (List.mem_append_right _ (List.mem_append_right _ (List.mem_append_right _ (List.mem_append_right _ (List.mem_append_left _ (List.mem_of_getElem? (i := 29) rfl))))))))))))))))))
theorem q710 : (.methodLink R_law 22 y_Mo_wipe : Cond) ∈ TB := List.mem_append_right _ (List.mem_append_right _ (List.mem_append_right _ (List.mem_append_right _ (List.mem_append_right _ (List.mem_append_right _ (List.mem_append_right _ (List.mem_append_right _ (List.mem_append_right _ (List.mem_append_right _ (List.mem_append_right _ (List.mem_append_right _ (List.mem_append_right _ (List.mem_append_right _ (List.mem_append_right _ (List.mem_append_right _ (List.mem_append_right _ (List.mem_append_left _ (List.mem_of_getElem? (i := 30) rfl))))))))))))))))))
theorem q711 : (.instanceMethod y_Mo_wipe : Cond) ∈ TB := List.mem_append_right _ (List.mem_append_right _ (List.mem_append_right _ (List.mem_append_right _ (List.mem_append_right _ (List.mem_append_right _ (List.mem_append_right _ (List.mem_append_right _ (List.mem_append_right _ (List.mem_append_right _ (List.mem_append_right _ (List.mem_append_right _ (List.mem_append_right _ (List.mem_append_right _ (List.mem_append_right _ (List.mem_append_right _ (List.mem_append_right _ (List.mem_append_left _ (List.mem_of_getElem? (i := 31) rfl))))))))))))))))))
theorem q712 : (.selects R_Mo y_Mo_wipe y_Mo_wipe : Cond) ∈ TB := List.mem_append_right _ (List.mem_append_right _ (List.mem_append_right _ (List.mem_append_right _ (List.mem_append_right _ (List.mem_append_right _ (List.mem_append_right _ (List.mem_append_right _ (List.mem_append_right _ (List.mem_append_right _ (List.mem_append_right _ (List.mem_append_right _ (List.mem_append_right _ (List.mem_append_right _ (List.mem_append_right _ (List.mem_append_right _ (List.mem_append_right _ (List.mem_append_left _ (List.mem_of_getElem? (i := 32) rfl))))))))))))))))))
theorem q713 : (.code y_Mo_wipe prog_10_method_8_code 2 (some .int) : Cond) ∈ TB := List.mem_append_right _ (List.mem_append_right _ (List.mem_append_right _ (List.mem_append_right _ (List.mem_append_right _ (List.mem_append_right _ (List.mem_append_right _ (List.mem_append_right _ (List.mem_append_right _ (List.mem_append_right _ (List.mem_append_right _ (List.mem_append_right _ (List.mem_append_right _ (List.mem_append_right _ (List.mem_append_right _ (List.mem_append_right _ (List.mem_append_right _ (List.mem_append_left _ (List.mem_of_getElem? (i := 33) rfl))))))))))))))))))
theorem q714 : (.methodLink R_law 26 y_Mo_fault : Cond) ∈ TB := List.mem_append_right _ (List.mem_append_right _ (List.mem_append_right _ (List.mem_append_right _ (List.mem_append_right _ (List.mem_append_right _ (List.mem_append_right _ (List.mem_append_right _ (List.mem_append_right _ (List.mem_append_right _ (List.mem_append_right _ (List.mem_append_right _ (List.mem_append_right _ (List.mem_append_right _ (List.mem_append_right _ (List.mem_append_right _ (List.mem_append_right _ (List.mem_append_left _ (List.mem_of_getElem? (i := 34) rfl))))))))))))))))))
theorem q715 : (.instanceMethod y_Mo_fault : Cond) ∈ TB := List.mem_append_right _ (List.mem_append_right _ (List.mem_append_right _ (List.mem_append_right _ (List.mem_append_right _ (List.mem_append_right _ (List.mem_append_right _ (List.mem_append_right _ (List.mem_append_right _ (List.mem_append_right _ (List.mem_append_right _ (List.mem_append_right _ (List.mem_append_right _ (List.mem_append_right _ (List.mem_append_right _ (List.mem_append_right _ (List.mem_append_right _ (List.mem_append_left _ (List.mem_of_getElem? (i := 35) rfl))))))))))))))))))
theorem q716 : (.selects R_Mo y_Mo_fault y_Mo_fault : Cond) ∈ TB := List.mem_append_right _ (List.mem_append_right _ (List.mem_append_right _ (List.mem_append_right _ (List.mem_append_right _ (List.mem_append_right _ (List.mem_append_right _ (List.mem_append_right _ (List.mem_append_right _ (List.mem_append_right _ (List.mem_append_right _ (List.mem_append_right _ (List.mem_append_right _ (List.mem_append_right _ (List.mem_append_right _ (List.mem_append_right _ (List.mem_append_right _ (List.mem_append_left _ (List.mem_of_getElem? (i := 36) rfl))))))))))))))))))
theorem q717 : (.code y_Mo_fault prog_10_method_15_code 1 (some .int) : Cond) ∈ TB := List.mem_append_right _ (List.mem_append_right _ (List.mem_append_right _ (List.mem_append_right _ (List.mem_append_right _ (List.mem_append_right _ (List.mem_append_right _ (List.mem_append_right _ (List.mem_append_right _ (List.mem_append_right _ (List.mem_append_right _ (List.mem_append_right _ (List.mem_append_right _ (List.mem_append_right _ (List.mem_append_right _ (List.mem_append_right _ (List.mem_append_right _ (List.mem_append_left _ (List.mem_of_getElem? (i := 37) rfl))))))))))))))))))
theorem q718 : (.methodLink R_Mo 97 y_Mo_readAll : Cond) ∈ TB := List.mem_append_right _ (List.mem_append_right _ (List.mem_append_right _ (List.mem_append_right _ (List.mem_append_right _ (List.mem_append_right _ (List.mem_append_right _ (List.mem_append_right _ (List.mem_append_right _ (List.mem_append_right _ (List.mem_append_right _ (List.mem_append_right _ (List.mem_append_right _ (List.mem_append_right _ (List.mem_append_right _ (List.mem_append_right _ (List.mem_append_right _ (List.mem_append_left _ (List.mem_of_getElem? (i := 38) rfl))))))))))))))))))
theorem q719 : (.instanceMethod y_Mo_readAll : Cond) ∈ TB := List.mem_append_right _ (List.mem_append_right _ (List.mem_append_right _ (List.mem_append_right _ (List.mem_append_right _ (List.mem_append_right _ (List.mem_append_right _ (List.mem_append_right _ (List.mem_append_right _ (List.mem_append_right _ (List.mem_append_right _ (List.mem_append_right _ (List.mem_append_right _ (List.mem_append_right _ (List.mem_append_right _ (List.mem_append_right _ (List.mem_append_right _ (List.mem_append_left _ (List.mem_of_getElem? (i := 39) rfl))))))))))))))))))
theorem q720 : (.code y_Mo_readAll prog_10_method_14_code 2 (some .int) : Cond) ∈ TB := List.mem_append_right _ (List.mem_append_right _ (List.mem_append_right _ (List.mem_append_right _ (List.mem_append_right _ (List.mem_append_right _ (List.mem_append_right _ (List.mem_append_right _ (List.mem_append_right _ (List.mem_append_right _ (List.mem_append_right _ (List.mem_append_right _ (List.mem_append_right _ (List.mem_append_right _ (List.mem_append_right _ (List.mem_append_right _ (List.mem_append_right _ (List.mem_append_right _ (List.mem_append_left _ (List.mem_of_getElem? (i := 0) rfl)))))))))))))))))))
theorem q721 : (.methodLink R_Mo 94 y_Mo_item : Cond) ∈ TB := List.mem_append_right _ (List.mem_append_right _ (List.mem_append_right _ (List.mem_append_right _ (List.mem_append_right _ (List.mem_append_right _ (List.mem_append_right _ (List.mem_append_right _ (List.mem_append_right _ (List.mem_append_right _ (List.mem_append_right _ (List.mem_append_right _ (List.mem_append_right _ (List.mem_append_right _ (List.mem_append_right _ (List.mem_append_right _ (List.mem_append_right _ (List.mem_append_right _ (List.mem_append_left _ (List.mem_of_getElem? (i := 1) rfl)))))))))))))))))))
theorem q722 : (.instanceMethod y_Mo_item : Cond) ∈ TB := List.mem_append_right _ (List.mem_append_right _ (List.mem_append_right _ (List.mem_append_right _ (List.mem_append_right _ (List.mem_append_right _ (List.mem_append_right _ (List.mem_append_right _ (List.mem_append_right _ (List.mem_append_right _ (List.mem_append_right _ (List.mem_append_right _ (List.mem_append_right _ (List.mem_append_right _ (List.mem_append_right _ (List.mem_append_right _ (List.mem_append_right _ (List.mem_append_right _ (List.mem_append_left _ (List.mem_of_getElem? (i := 2) rfl)))))))))))))))))))
theorem q723 : (.code y_Mo_item prog_10_method_13_code 2 (some .boolean) : Cond) ∈ TB := List.mem_append_right _ (List.mem_append_right _ (List.mem_append_right _ (List.mem_append_right _ (List.mem_append_right _ (List.mem_append_right _ (List.mem_append_right _ (List.mem_append_right _ (List.mem_append_right _ (List.mem_append_right _ (List.mem_append_right _ (List.mem_append_right _ (List.mem_append_right _ (List.mem_append_right _ (List.mem_append_right _ (List.mem_append_right _ (List.mem_append_right _ (List.mem_append_right _ (List.mem_append_left _ (List.mem_of_getElem? (i := 3) rfl)))))))))))))))))))
theorem q724 : (.methodLink R_Mo 66 y_Mo_letterAt : Cond) ∈ TB := List.mem_append_right _ (List.mem_append_right _ (List.mem_append_right _ (List.mem_append_right _ (List.mem_append_right _ (List.mem_append_right _ (List.mem_append_right _ (List.mem_append_right _ (List.mem_append_right _ (List.mem_append_right _ (List.mem_append_right _ (List.mem_append_right _ (List.mem_append_right _ (List.mem_append_right _ (List.mem_append_right _ (List.mem_append_right _ (List.mem_append_right _ (List.mem_append_right _ (List.mem_append_left _ (List.mem_of_getElem? (i := 4) rfl)))))))))))))))))))
theorem q725 : (.instanceMethod y_Mo_letterAt : Cond) ∈ TB := List.mem_append_right _ (List.mem_append_right _ (List.mem_append_right _ (List.mem_append_right _ (List.mem_append_right _ (List.mem_append_right _ (List.mem_append_right _ (List.mem_append_right _ (List.mem_append_right _ (List.mem_append_right _ (List.mem_append_right _ (List.mem_append_right _ (List.mem_append_right _ (List.mem_append_right _ (List.mem_append_right _ (List.mem_append_right _ (List.mem_append_right _ (List.mem_append_right _ (List.mem_append_left _ (List.mem_of_getElem? (i := 5) rfl)))))))))))))))))))
theorem q726 : (.code y_Mo_letterAt prog_10_method_9_code 2 (some .int) : Cond) ∈ TB := List.mem_append_right _ (List.mem_append_right _ (List.mem_append_right _ (List.mem_append_right _ (List.mem_append_right _ (List.mem_append_right _ (List.mem_append_right _ (List.mem_append_right _ (List.mem_append_right _ (List.mem_append_right _ (List.mem_append_right _ (List.mem_append_right _ (List.mem_append_right _ (List.mem_append_right _ (List.mem_append_right _ (List.mem_append_right _ (List.mem_append_right _ (List.mem_append_right _ (List.mem_append_left _ (List.mem_of_getElem? (i := 6) rfl)))))))))))))))))))
theorem q727 : (.methodLink R_Mo 84 y_Mo_one : Cond) ∈ TB := List.mem_append_right _ (List.mem_append_right _ (List.mem_append_right _ (List.mem_append_right _ (List.mem_append_right _ (List.mem_append_right _ (List.mem_append_right _ (List.mem_append_right _ (List.mem_append_right _ (List.mem_append_right _ (List.mem_append_right _ (List.mem_append_right _ (List.mem_append_right _ (List.mem_append_right _ (List.mem_append_right _ (List.mem_append_right _ (List.mem_append_right _ (List.mem_append_right _ (List.mem_append_left _ (List.mem_of_getElem? (i := 7) rfl)))))))))))))))))))
theorem q728 : (.instanceMethod y_Mo_one : Cond) ∈ TB := List.mem_append_right _ (List.mem_append_right _ (List.mem_append_right _ (List.mem_append_right _ (List.mem_append_right _ (List.mem_append_right _ (List.mem_append_right _ (List.mem_append_right _ (List.mem_append_right _ (List.mem_append_right _ (List.mem_append_right _ (List.mem_append_right _ (List.mem_append_right _ (List.mem_append_right _ (List.mem_append_right _ (List.mem_append_right _ (List.mem_append_right _ (List.mem_append_right _ (List.mem_append_left _ (List.mem_of_getElem? (i := 8) rfl)))))))))))))))))))
theorem q729 : (.code y_Mo_one prog_10_method_12_code 4 (some .boolean) : Cond) ∈ TB := List.mem_append_right _ (List.mem_append_right _ (List.mem_append_right _ (List.mem_append_right _ (List.mem_append_right _ (List.mem_append_right _ (List.mem_append_right _ (List.mem_append_right _ (List.mem_append_right _ (List.mem_append_right _ (List.mem_append_right _ (List.mem_append_right _ (List.mem_append_right _ (List.mem_append_right _ (List.mem_append_right _ (List.mem_append_right _ (List.mem_append_right _ (List.mem_append_right _ (List.mem_append_left _ (List.mem_of_getElem? (i := 9) rfl)))))))))))))))))))
theorem q730 : (.methodLink R_Mo 80 y_Mo_numbers : Cond) ∈ TB := List.mem_append_right _ (List.mem_append_right _ (List.mem_append_right _ (List.mem_append_right _ (List.mem_append_right _ (List.mem_append_right _ (List.mem_append_right _ (List.mem_append_right _ (List.mem_append_right _ (List.mem_append_right _ (List.mem_append_right _ (List.mem_append_right _ (List.mem_append_right _ (List.mem_append_right _ (List.mem_append_right _ (List.mem_append_right _ (List.mem_append_right _ (List.mem_append_right _ (List.mem_append_left _ (List.mem_of_getElem? (i := 10) rfl)))))))))))))))))))
theorem q731 : (.instanceMethod y_Mo_numbers : Cond) ∈ TB := List.mem_append_right _ (List.mem_append_right _ (List.mem_append_right _ (List.mem_append_right _ (List.mem_append_right _ (List.mem_append_right _ (List.mem_append_right _ (List.mem_append_right _ (List.mem_append_right _ (List.mem_append_right _ (List.mem_append_right _ (List.mem_append_right _ (List.mem_append_right _ (List.mem_append_right _ (List.mem_append_right _ (List.mem_append_right _ (List.mem_append_right _ (List.mem_append_right _ (List.mem_append_left _ (List.mem_of_getElem? (i := 11) rfl)))))))))))))))))))
theorem q732 : (.code y_Mo_numbers prog_10_method_10_code 5 (some .boolean) : Cond) ∈ TB := List.mem_append_right _ (List.mem_append_right _ (List.mem_append_right _ (List.mem_append_right _ (List.mem_append_right _ (List.mem_append_right _ (List.mem_append_right _ (List.mem_append_right _ (List.mem_append_right _ (List.mem_append_right _ (List.mem_append_right _ (List.mem_append_right _ (List.mem_append_right _ (List.mem_append_right _ (List.mem_append_right _ (List.mem_append_right _ (List.mem_append_right _ (List.mem_append_right _ (List.mem_append_left _ (List.mem_of_getElem? (i := 12) rfl)))))))))))))))))))
theorem q733 : (.constantLong R_Mo 70 (48) : Cond) ∈ TB := List.mem_append_right _ (List.mem_append_right _ (List.mem_append_right _ (List.mem_append_right _ (List.mem_append_right _ (List.mem_append_right _ (List.mem_append_right _ (List.mem_append_right _ (List.mem_append_right _ (List.mem_append_right _ (List.mem_append_right _ (List.mem_append_right _ (List.mem_append_right _ (List.mem_append_right _ (List.mem_append_right _ (List.mem_append_right _ (List.mem_append_right _ (List.mem_append_right _ (List.mem_append_left _ (List.mem_of_getElem? (i := 13) rfl)))))))))))))))))))
theorem q734 : (.constantLong R_Mo 72 (57) : Cond) ∈ TB := List.mem_append_right _ (List.mem_append_right _ (List.mem_append_right _ (List.mem_append_right _ (List.mem_append_right _ (List.mem_append_right _ (List.mem_append_right _ (List.mem_append_right _ (List.mem_append_right _ (List.mem_append_right _ (List.mem_append_right _ (List.mem_append_right _ (List.mem_append_right _ (List.mem_append_right _ (List.mem_append_right _ (List.mem_append_right _ (List.mem_append_right _ (List.mem_append_right _ (List.mem_append_left _ (List.mem_of_getElem? (i := 14) rfl)))))))))))))))))))
theorem q735 : (.constantLong R_Mo 74 (2) : Cond) ∈ TB := List.mem_append_right _ (List.mem_append_right _ (List.mem_append_right _ (List.mem_append_right _ (List.mem_append_right _ (List.mem_append_right _ (List.mem_append_right _ (List.mem_append_right _ (List.mem_append_right _ (List.mem_append_right _ (List.mem_append_right _ (List.mem_append_right _ (List.mem_append_right _ (List.mem_append_right _ (List.mem_append_right _ (List.mem_append_right _ (List.mem_append_right _ (List.mem_append_right _ (List.mem_append_left _ (List.mem_of_getElem? (i := 15) rfl)))))))))))))))))))
theorem q736 : (.methodLink R_Mo 88 y_Mo_guestItem : Cond) ∈ TB := List.mem_append_right _ (List.mem_append_right _ (List.mem_append_right _ (List.mem_append_right _ (List.mem_append_right _ (List.mem_append_right _ (List.mem_append_right _ (List.mem_append_right _ (List.mem_append_right _ (List.mem_append_right _ (List.mem_append_right _ (List.mem_append_right _ (List.mem_append_right _ (List.mem_append_right _ (List.mem_append_right _ (List.mem_append_right _ (List.mem_append_right _ (List.mem_append_right _ (List.mem_append_left _ (List.mem_of_getElem? (i := 16) rfl)))))))))))))))))))
theorem q737 : (.instanceMethod y_Mo_guestItem : Cond) ∈ TB := List.mem_append_right _ (List.mem_append_right _ (List.mem_append_right _ (List.mem_append_right _ (List.mem_append_right _ (List.mem_append_right _ (List.mem_append_right _ (List.mem_append_right _ (List.mem_append_right _ (List.mem_append_right _ (List.mem_append_right _ (List.mem_append_right _ (List.mem_append_right _ (List.mem_append_right _ (List.mem_append_right _ (List.mem_append_right _ (List.mem_append_right _ (List.mem_append_right _ (List.mem_append_left _ (List.mem_of_getElem? (i := 17) rfl)))))))))))))))))))
theorem q738 : (.code y_Mo_guestItem prog_10_method_11_code 4 (some .boolean) : Cond) ∈ TB := List.mem_append_right _ (List.mem_append_right _ (List.mem_append_right _ (List.mem_append_right _ (List.mem_append_right _ (List.mem_append_right _ (List.mem_append_right _ (List.mem_append_right _ (List.mem_append_right _ (List.mem_append_right _ (List.mem_append_right _ (List.mem_append_right _ (List.mem_append_right _ (List.mem_append_right _ (List.mem_append_right _ (List.mem_append_right _ (List.mem_append_right _ (List.mem_append_right _ (List.mem_append_left _ (List.mem_of_getElem? (i := 18) rfl)))))))))))))))))))
theorem q739 : (.constantLong R_Mo 76 (3) : Cond) ∈ TB := List.mem_append_right _ (List.mem_append_right _ (List.mem_append_right _ (List.mem_append_right _ (List.mem_append_right _ (List.mem_append_right _ (List.mem_append_right _ (List.mem_append_right _ (List.mem_append_right _ (List.mem_append_right _ (List.mem_append_right _ (List.mem_append_right _ (List.mem_append_right _ (List.mem_append_right _ (List.mem_append_right _ (List.mem_append_right _ (List.mem_append_right _ (List.mem_append_right _ (List.mem_append_left _ (List.mem_of_getElem? (i := 19) rfl)))))))))))))))))))
theorem q740 : (.constantLong R_Mo 78 (9) : Cond) ∈ TB := List.mem_append_right _ (List.mem_append_right _ (List.mem_append_right _ (List.mem_append_right _ (List.mem_append_right _ (List.mem_append_right _ (List.mem_append_right _ (List.mem_append_right _ (List.mem_append_right _ (List.mem_append_right _ (List.mem_append_right _ (List.mem_append_right _ (List.mem_append_right _ (List.mem_append_right _ (List.mem_append_right _ (List.mem_append_right _ (List.mem_append_right _ (List.mem_append_right _ (List.mem_append_left _ (List.mem_of_getElem? (i := 20) rfl)))))))))))))))))))
theorem q741 : (.constantLong R_Mo 92 (60) : Cond) ∈ TB := List.mem_append_right _ (List.mem_append_right _ (List.mem_append_right _ (List.mem_append_right _ (List.mem_append_right _ (List.mem_append_right _ (List.mem_append_right _ (List.mem_append_right _ (List.mem_append_right _ (List.mem_append_right _ (List.mem_append_right _ (List.mem_append_right _ (List.mem_append_right _ (List.mem_append_right _ (List.mem_append_right _ (List.mem_append_right _ (List.mem_append_right _ (List.mem_append_right _ (List.mem_append_left _ (List.mem_of_getElem? (i := 21) rfl)))))))))))))))))))
theorem q742 : (.methodLink R_law 30 y_Mo_lay : Cond) ∈ TB := List.mem_append_right _ (List.mem_append_right _ (List.mem_append_right _ (List.mem_append_right _ (List.mem_append_right _ (List.mem_append_right _ (List.mem_append_right _ (List.mem_append_right _ (List.mem_append_right _ (List.mem_append_right _ (List.mem_append_right _ (List.mem_append_right _ (List.mem_append_right _ (List.mem_append_right _ (List.mem_append_right _ (List.mem_append_right _ (List.mem_append_right _ (List.mem_append_right _ (List.mem_append_left _ (List.mem_of_getElem? (i := 22) rfl)))))))))))))))))))
theorem q743 : (.instanceMethod y_Mo_lay : Cond) ∈ TB := List.mem_append_right _ (List.mem_append_right _ (List.mem_append_right _ (List.mem_append_right _ (List.mem_append_right _ (List.mem_append_right _ (List.mem_append_right _ (List.mem_append_right _ (List.mem_append_right _ (List.mem_append_right _ (List.mem_append_right _ (List.mem_append_right _ (List.mem_append_right _ (List.mem_append_right _ (List.mem_append_right _ (List.mem_append_right _ (List.mem_append_right _ (List.mem_append_right _ (List.mem_append_left _ (List.mem_of_getElem? (i := 23) rfl)))))))))))))))))))
theorem q744 : (.selects R_Mo y_Mo_lay y_Mo_lay : Cond) ∈ TB := List.mem_append_right _ (List.mem_append_right _ (List.mem_append_right _ (List.mem_append_right _ (List.mem_append_right _ (List.mem_append_right _ (List.mem_append_right _ (List.mem_append_right _ (List.mem_append_right _ (List.mem_append_right _ (List.mem_append_right _ (List.mem_append_right _ (List.mem_append_right _ (List.mem_append_right _ (List.mem_append_right _ (List.mem_append_right _ (List.mem_append_right _ (List.mem_append_right _ (List.mem_append_left _ (List.mem_of_getElem? (i := 24) rfl)))))))))))))))))))
theorem q745 : (.code y_Mo_lay prog_10_method_16_code 1 (some .int) : Cond) ∈ TB := List.mem_append_right _ (List.mem_append_right _ (List.mem_append_right _ (List.mem_append_right _ (List.mem_append_right _ (List.mem_append_right _ (List.mem_append_right _ (List.mem_append_right _ (List.mem_append_right _ (List.mem_append_right _ (List.mem_append_right _ (List.mem_append_right _ (List.mem_append_right _ (List.mem_append_right _ (List.mem_append_right _ (List.mem_append_right _ (List.mem_append_right _ (List.mem_append_right _ (List.mem_append_left _ (List.mem_of_getElem? (i := 25) rfl)))))))))))))))))))
theorem q746 : (.methodLink R_law 35 y_Mo_guest : Cond) ∈ TB := List.mem_append_right _ (List.mem_append_right _ (List.mem_append_right _ (List.mem_append_right _ (List.mem_append_right _ (List.mem_append_right _ (List.mem_append_right _ (List.mem_append_right _ (List.mem_append_right _ (List.mem_append_right _ (List.mem_append_right _ (List.mem_append_right _ (List.mem_append_right _ (List.mem_append_right _ (List.mem_append_right _ (List.mem_append_right _ (List.mem_append_right _ (List.mem_append_right _ (List.mem_append_left _ (List.mem_of_getElem? (i := 26) rfl)))))))))))))))))))
theorem q747 : (.instanceMethod y_Mo_guest : Cond) ∈ TB := List.mem_append_right _ (List.mem_append_right _ (List.mem_append_right _ (List.mem_append_right _ (List.mem_append_right _ (List.mem_append_right _ (List.mem_append_right _ (List.mem_append_right _ (List.mem_append_right _ (List.mem_append_right _ (List.mem_append_right _ (List.mem_append_right _ (List.mem_append_right _ (List.mem_append_right _ (List.mem_append_right _ (List.mem_append_right _ (List.mem_append_right _ (List.mem_append_right _ (List.mem_append_left _ (List.mem_of_getElem? (i := 27) rfl)))))))))))))))))))
theorem q748 : (.selects R_Mo y_Mo_guest y_Mo_guest : Cond) ∈ TB := List.mem_append_right _ (List.mem_append_right _ (List.mem_append_right _ (List.mem_append_right _ (List.mem_append_right _ (List.mem_append_right _ (List.mem_append_right _ (List.mem_append_right _ (List.mem_append_right _ (List.mem_append_right _ (List.mem_append_right _ (List.mem_append_right _ (List.mem_append_right _ (List.mem_append_right _ (List.mem_append_right _ (List.mem_append_right _ (List.mem_append_right _ (List.mem_append_right _ (List.mem_append_left _ (List.mem_of_getElem? (i := 28) rfl)))))))))))))))))))
theorem q749 : (.code y_Mo_guest prog_10_method_27_code 5 (some .int) : Cond) ∈ TB := List.mem_append_right _ (List.mem_append_right _ (List.mem_append_right _ (List.mem_append_right _ (List.mem_append_right _ (List.mem_append_right _ (List.mem_append_right _ (List.mem_append_right _ (List.mem_append_right _ (List.mem_append_right _ (List.mem_append_right _ (List.mem_append_right _ (List.mem_append_right _ (List.mem_append_right _ (List.mem_append_right _ (List.mem_append_right _ (List.mem_append_right _ (List.mem_append_right _ (List.mem_append_left _ (List.mem_of_getElem? (i := 29) rfl)))))))))))))))))))
theorem q750 : (.methodLink R_Mo 127 y_Mo_isGuest : Cond) ∈ TB := List.mem_append_right _ (List.mem_append_right _ (List.mem_append_right _ (List.mem_append_right _ (List.mem_append_right _ (List.mem_append_right _ (List.mem_append_right _ (List.mem_append_right _ (List.mem_append_right _ (List.mem_append_right _ (List.mem_append_right _ (List.mem_append_right _ (List.mem_append_right _ (List.mem_append_right _ (List.mem_append_right _ (List.mem_append_right _ (List.mem_append_right _ (List.mem_append_right _ (List.mem_append_left _ (List.mem_of_getElem? (i := 30) rfl)))))))))))))))))))
theorem q751 : (.instanceMethod y_Mo_isGuest : Cond) ∈ TB := List.mem_append_right _ (List.mem_append_right _ (List.mem_append_right _ (List.mem_append_right _ (List.mem_append_right _ (List.mem_append_right _ (List.mem_append_right _ (List.mem_append_right _ (List.mem_append_right _ (List.mem_append_right _ (List.mem_append_right _ (List.mem_append_right _ (List.mem_append_right _ (List.mem_append_right _ (List.mem_append_right _ (List.mem_append_right _ (List.mem_append_right _ (List.mem_append_right _ (List.mem_append_left _ (List.mem_of_getElem? (i := 31) rfl)))))))))))))))))))
theorem q752 : (.code y_Mo_isGuest prog_10_method_18_code 2 (some .boolean) : Cond) ∈ TB := List.mem_append_right _ (List.mem_append_right _ (List.mem_append_right _ (List.mem_append_right _ (List.mem_append_right _ (List.mem_append_right _ (List.mem_append_right _ (List.mem_append_right _ (List.mem_append_right _ (List.mem_append_right _ (List.mem_append_right _ (List.mem_append_right _ (List.mem_append_right _ (List.mem_append_right _ (List.mem_append_right _ (List.mem_append_right _ (List.mem_append_right _ (List.mem_append_right _ (List.mem_append_left _ (List.mem_of_getElem? (i := 32) rfl)))))))))))))))))))
theorem q753 : (.methodLink R_Mo 130 y_Mo_hasHeart : Cond) ∈ TB := List.mem_append_right _ (List.mem_append_right _ (List.mem_append_right _ (List.mem_append_right _ (List.mem_append_right _ (List.mem_append_right _ (List.mem_append_right _ (List.mem_append_right _ (List.mem_append_right _ (List.mem_append_right _ (List.mem_append_right _ (List.mem_append_right _ (List.mem_append_right _ (List.mem_append_right _ (List.mem_append_right _ (List.mem_append_right _ (List.mem_append_right _ (List.mem_append_right _ (List.mem_append_left _ (List.mem_of_getElem? (i := 33) rfl)))))))))))))))))))
theorem q754 : (.instanceMethod y_Mo_hasHeart : Cond) ∈ TB := List.mem_append_right _ (List.mem_append_right _ (List.mem_append_right _ (List.mem_append_right _ (List.mem_append_right _ (List.mem_append_right _ (List.mem_append_right _ (List.mem_append_right _ (List.mem_append_right _ (List.mem_append_right _ (List.mem_append_right _ (List.mem_append_right _ (List.mem_append_right _ (List.mem_append_right _ (List.mem_append_right _ (List.mem_append_right _ (List.mem_append_right _ (List.mem_append_right _ (List.mem_append_left _ (List.mem_of_getElem? (i := 34) rfl)))))))))))))))))))
theorem q755 : (.code y_Mo_hasHeart prog_10_method_24_code 7 (some .boolean) : Cond) ∈ TB := List.mem_append_right _ (List.mem_append_right _ (List.mem_append_right _ (List.mem_append_right _ (List.mem_append_right _ (List.mem_append_right _ (List.mem_append_right _ (List.mem_append_right _ (List.mem_append_right _ (List.mem_append_right _ (List.mem_append_right _ (List.mem_append_right _ (List.mem_append_right _ (List.mem_append_right _ (List.mem_append_right _ (List.mem_append_right _ (List.mem_append_right _ (List.mem_append_right _ (List.mem_append_left _ (List.mem_of_getElem? (i := 35) rfl)))))))))))))))))))
theorem q756 : (.methodLink R_Mo 110 y_Mo_has : Cond) ∈ TB := List.mem_append_right _ (List.mem_append_right _ (List.mem_append_right _ (List.mem_append_right _ (List.mem_append_right _ (List.mem_append_right _ (List.mem_append_right _ (List.mem_append_right _ (List.mem_append_right _ (List.mem_append_right _ (List.mem_append_right _ (List.mem_append_right _ (List.mem_append_right _ (List.mem_append_right _ (List.mem_append_right _ (List.mem_append_right _ (List.mem_append_right _ (List.mem_append_right _ (List.mem_append_left _ (List.mem_of_getElem? (i := 36) rfl)))))))))))))))))))
theorem q757 : (.static y_Mo_has : Cond) ∈ TB := List.mem_append_right _ (List.mem_append_right _ (List.mem_append_right _ (List.mem_append_right _ (List.mem_append_right _ (List.mem_append_right _ (List.mem_append_right _ (List.mem_append_right _ (List.mem_append_right _ (List.mem_append_right _ (List.mem_append_right _ (List.mem_append_right _ (List.mem_append_right _ (List.mem_append_right _ (List.mem_append_right _ (List.mem_append_right _ (List.mem_append_right _ (List.mem_append_right _ (List.mem_append_left _ (List.mem_of_getElem? (i := 37) rfl)))))))))))))))))))
theorem q758 : (.code y_Mo_has prog_10_method_4_code 2 (some .boolean) : Cond) ∈ TB := List.mem_append_right _ (List.mem_append_right _ (List.mem_append_right _ (List.mem_append_right _ (List.mem_append_right _ (List.mem_append_right _ (List.mem_append_right _ (List.mem_append_right _ (List.mem_append_right _ (List.mem_append_right _ (List.mem_append_right _ (List.mem_append_right _ (List.mem_append_right _ (List.mem_append_right _ (List.mem_append_right _ (List.mem_append_right _ (List.mem_append_right _ (List.mem_append_right _ (List.mem_append_left _ (List.mem_of_getElem? (i := 38) rfl)))))))))))))))))))
theorem q759 : (.methodLink R_Mo 114 y_Mo_worthAt : Cond) ∈ TB := List.mem_append_right _ (List.mem_append_right _ (List.mem_append_right _ (List.mem_append_right _ (List.mem_append_right _ (List.mem_append_right _ (List.mem_append_right _ (List.mem_append_right _ (List.mem_append_right _ (List.mem_append_right _ (List.mem_append_right _ (List.mem_append_right _ (List.mem_append_right _ (List.mem_append_right _ (List.mem_append_right _ (List.mem_append_right _ (List.mem_append_right _ (List.mem_append_right _ (List.mem_append_left _ (List.mem_of_getElem? (i := 39) rfl)))))))))))))))))))
theorem q760 : (.instanceMethod y_Mo_worthAt : Cond) ∈ TB := List.mem_append_right _ (List.mem_append_right _ (List.mem_append_right _ (List.mem_append_right _ (List.mem_append_right _ (List.mem_append_right _ (List.mem_append_right _ (List.mem_append_right _ (List.mem_append_right _ (List.mem_append_right _ (List.mem_append_right _ (List.mem_append_right _ (List.mem_append_right _ (List.mem_append_right _ (List.mem_append_right _ (List.mem_append_right _ (List.mem_append_right _ (List.mem_append_right _ (List.mem_append_right _ (List.mem_append_left _ (List.mem_of_getElem? (i := 0) rfl))))))))))))))))))))
theorem q761 : (.code y_Mo_worthAt prog_10_method_21_code 6 (some .int) : Cond) ∈ TB := List.mem_append_right _ (List.mem_append_right _ (List.mem_append_right _ (List.mem_append_right _ (List.mem_append_right _ (List.mem_append_right _ (List.mem_append_right _ (List.mem_append_right _ (List.mem_append_right _ (List.mem_append_right _ (List.mem_append_right _ (List.mem_append_right _ (List.mem_append_right _ (List.mem_append_right _ (List.mem_append_right _ (List.mem_append_right _ (List.mem_append_right _ (List.mem_append_right _ (List.mem_append_right _ (List.mem_append_left _ (List.mem_of_getElem? (i := 1) rfl))))))))))))))))))))
theorem q762 : (.methodLink R_Mo 118 y_Mo_leftBy : Cond) ∈ TB := List.mem_append_right _ (List.mem_append_right _ (List.mem_append_right _ (List.mem_append_right _ (List.mem_append_right _ (List.mem_append_right _ (List.mem_append_right _ (List.mem_append_right _ (List.mem_append_right _ (List.mem_append_right _ (List.mem_append_right _ (List.mem_append_right _ (List.mem_append_right _ (List.mem_append_right _ (List.mem_append_right _ (List.mem_append_right _ (List.mem_append_right _ (List.mem_append_right _ (List.mem_append_right _ (List.mem_append_left _ (List.mem_of_getElem? (i := 2) rfl))))))))))))))))))))
theorem q763 : (.instanceMethod y_Mo_leftBy : Cond) ∈ TB := List.mem_append_right _ (List.mem_append_right _ (List.mem_append_right _ (List.mem_append_right _ (List.mem_append_right _ (List.mem_append_right _ (List.mem_append_right _ (List.mem_append_right _ (List.mem_append_right _ (List.mem_append_right _ (List.mem_append_right _ (List.mem_append_right _ (List.mem_append_right _ (List.mem_append_right _ (List.mem_append_right _ (List.mem_append_right _ (List.mem_append_right _ (List.mem_append_right _ (List.mem_append_right _ (List.mem_append_left _ (List.mem_of_getElem? (i := 3) rfl))))))))))))))))))))
theorem q764 : (.code y_Mo_leftBy prog_10_method_20_code 2 (some .int) : Cond) ∈ TB := List.mem_append_right _ (List.mem_append_right _ (List.mem_append_right _ (List.mem_append_right _ (List.mem_append_right _ (List.mem_append_right _ (List.mem_append_right _ (List.mem_append_right _ (List.mem_append_right _ (List.mem_append_right _ (List.mem_append_right _ (List.mem_append_right _ (List.mem_append_right _ (List.mem_append_right _ (List.mem_append_right _ (List.mem_append_right _ (List.mem_append_right _ (List.mem_append_right _ (List.mem_append_right _ (List.mem_append_left _ (List.mem_of_getElem? (i := 4) rfl))))))))))))))))))))
theorem q765 : (.methodLink R_Mo 121 y_Mo_mostOf : Cond) ∈ TB := List.mem_append_right _ (List.mem_append_right _ (List.mem_append_right _ (List.mem_append_right _ (List.mem_append_right _ (List.mem_append_right _ (List.mem_append_right _ (List.mem_append_right _ (List.mem_append_right _ (List.mem_append_right _ (List.mem_append_right _ (List.mem_append_right _ (List.mem_append_right _ (List.mem_append_right _ (List.mem_append_right _ (List.mem_append_right _ (List.mem_append_right _ (List.mem_append_right _ (List.mem_append_right _ (List.mem_append_left _ (List.mem_of_getElem? (i := 5) rfl))))))))))))))))))))
theorem q766 : (.instanceMethod y_Mo_mostOf : Cond) ∈ TB := List.mem_append_right _ (List.mem_append_right _ (List.mem_append_right _ (List.mem_append_right _ (List.mem_append_right _ (List.mem_append_right _ (List.mem_append_right _ (List.mem_append_right _ (List.mem_append_right _ (List.mem_append_right _ (List.mem_append_right _ (List.mem_append_right _ (List.mem_append_right _ (List.mem_append_right _ (List.mem_append_right _ (List.mem_append_right _ (List.mem_append_right _ (List.mem_append_right _ (List.mem_append_right _ (List.mem_append_left _ (List.mem_of_getElem? (i := 6) rfl))))))))))))))))))))
theorem q767 : (.code y_Mo_mostOf prog_10_method_22_code 6 (some .int) : Cond) ∈ TB := List.mem_append_right _ (List.mem_append_right _ (List.mem_append_right _ (List.mem_append_right _ (List.mem_append_right _ (List.mem_append_right _ (List.mem_append_right _ (List.mem_append_right _ (List.mem_append_right _ (List.mem_append_right _ (List.mem_append_right _ (List.mem_append_right _ (List.mem_append_right _ (List.mem_append_right _ (List.mem_append_right _ (List.mem_append_right _ (List.mem_append_right _ (List.mem_append_right _ (List.mem_append_right _ (List.mem_append_left _ (List.mem_of_getElem? (i := 7) rfl))))))))))))))))))))
theorem q768 : (.methodLink R_law 39 y_Mo_dish : Cond) ∈ TB := List.mem_append_right _ (List.mem_append_right _ (List.mem_append_right _ (List.mem_append_right _ (List.mem_append_right _ (List.mem_append_right _ (List.mem_append_right _ (List.mem_append_right _ (List.mem_append_right _ (List.mem_append_right _ (List.mem_append_right _ (List.mem_append_right _ (List.mem_append_right _ (List.mem_append_right _ (List.mem_append_right _ (List.mem_append_right _ (List.mem_append_right _ (List.mem_append_right _ (List.mem_append_right _ (List.mem_append_left _ (List.mem_of_getElem? (i := 8) rfl))))))))))))))))))))
theorem q769 : (.instanceMethod y_Mo_dish : Cond) ∈ TB := List.mem_append_right _ (List.mem_append_right _ (List.mem_append_right _ (List.mem_append_right _ (List.mem_append_right _ (List.mem_append_right _ (List.mem_append_right _ (List.mem_append_right _ (List.mem_append_right _ (List.mem_append_right _ (List.mem_append_right _ (List.mem_append_right _ (List.mem_append_right _ (List.mem_append_right _ (List.mem_append_right _ (List.mem_append_right _ (List.mem_append_right _ (List.mem_append_right _ (List.mem_append_right _ (List.mem_append_left _ (List.mem_of_getElem? (i := 9) rfl))))))))))))))))))))
theorem q770 : (.selects R_Mo y_Mo_dish y_Mo_dish : Cond) ∈ TB := List.mem_append_right _ (List.mem_append_right _ (List.mem_append_right _ (List.mem_append_right _ (List.mem_append_right _ (List.mem_append_right _ (List.mem_append_right _ (List.mem_append_right _ (List.mem_append_right _ (List.mem_append_right _ (List.mem_append_right _ (List.mem_append_right _ (List.mem_append_right _ (List.mem_append_right _ (List.mem_append_right _ (List.mem_append_right _ (List.mem_append_right _ (List.mem_append_right _ (List.mem_append_right _ (List.mem_append_left _ (List.mem_of_getElem? (i := 10) rfl))))))))))))))))))))
theorem q771 : (.code y_Mo_dish prog_10_method_28_code 5 (some .int) : Cond) ∈ TB := List.mem_append_right _ (List.mem_append_right _ (List.mem_append_right _ (List.mem_append_right _ (List.mem_append_right _ (List.mem_append_right _ (List.mem_append_right _ (List.mem_append_right _ (List.mem_append_right _ (List.mem_append_right _ (List.mem_append_right _ (List.mem_append_right _ (List.mem_append_right _ (List.mem_append_right _ (List.mem_append_right _ (List.mem_append_right _ (List.mem_append_right _ (List.mem_append_right _ (List.mem_append_right _ (List.mem_append_left _ (List.mem_of_getElem? (i := 11) rfl))))))))))))))))))))
theorem q772 : (.methodLink R_Mo 134 y_Mo_isDish : Cond) ∈ TB := List.mem_append_right _ (List.mem_append_right _ (List.mem_append_right _ (List.mem_append_right _ (List.mem_append_right _ (List.mem_append_right _ (List.mem_append_right _ (List.mem_append_right _ (List.mem_append_right _ (List.mem_append_right _ (List.mem_append_right _ (List.mem_append_right _ (List.mem_append_right _ (List.mem_append_right _ (List.mem_append_right _ (List.mem_append_right _ (List.mem_append_right _ (List.mem_append_right _ (List.mem_append_right _ (List.mem_append_left _ (List.mem_of_getElem? (i := 12) rfl))))))))))))))))))))
theorem q773 : (.instanceMethod y_Mo_isDish : Cond) ∈ TB := List.mem_append_right _ (List.mem_append_right _ (List.mem_append_right _ (List.mem_append_right _ (List.mem_append_right _ (List.mem_append_right _ (List.mem_append_right _ (List.mem_append_right _ (List.mem_append_right _ (List.mem_append_right _ (List.mem_append_right _ (List.mem_append_right _ (List.mem_append_right _ (List.mem_append_right _ (List.mem_append_right _ (List.mem_append_right _ (List.mem_append_right _ (List.mem_append_right _ (List.mem_append_right _ (List.mem_append_left _ (List.mem_of_getElem? (i := 13) rfl))))))))))))))))))))
theorem q774 : (.code y_Mo_isDish prog_10_method_19_code 2 (some .boolean) : Cond) ∈ TB := List.mem_append_right _ (List.mem_append_right _ (List.mem_append_right _ (List.mem_append_right _ (List.mem_append_right _ (List.mem_append_right _ (List.mem_append_right _ (List.mem_append_right _ (List.mem_append_right _ (List.mem_append_right _ (List.mem_append_right _ (List.mem_append_right _ (List.mem_append_right _ (List.mem_append_right _ (List.mem_append_right _ (List.mem_append_right _ (List.mem_append_right _ (List.mem_append_right _ (List.mem_append_right _ (List.mem_append_left _ (List.mem_of_getElem? (i := 14) rfl))))))))))))))))))))
theorem q775 : (.methodLink R_Mo 124 y_Mo_sumOf : Cond) ∈ TB := List.mem_append_right _ (List.mem_append_right _ (List.mem_append_right _ (List.mem_append_right _ (List.mem_append_right _ (List.mem_append_right _ (List.mem_append_right _ (List.mem_append_right _ (List.mem_append_right _ (List.mem_append_right _ (List.mem_append_right _ (List.mem_append_right _ (List.mem_append_right _ (List.mem_append_right _ (List.mem_append_right _ (List.mem_append_right _ (List.mem_append_right _ (List.mem_append_right _ (List.mem_append_right _ (List.mem_append_left _ (List.mem_of_getElem? (i := 15) rfl))))))))))))))))))))
theorem q776 : (.instanceMethod y_Mo_sumOf : Cond) ∈ TB := List.mem_append_right _ (List.mem_append_right _ (List.mem_append_right _ (List.mem_append_right _ (List.mem_append_right _ (List.mem_append_right _ (List.mem_append_right _ (List.mem_append_right _ (List.mem_append_right _ (List.mem_append_right _ (List.mem_append_right _ (List.mem_append_right _ (List.mem_append_right _ (List.mem_append_right _ (List.mem_append_right _ (List.mem_append_right _ (List.mem_append_right _ (List.mem_append_right _ (List.mem_append_right _ (List.mem_append_left _ (List.mem_of_getElem? (i := 16) rfl))))))))))))))))))))
theorem q777 : (.code y_Mo_sumOf prog_10_method_25_code 6 (some .int) : Cond) ∈ TB := List.mem_append_right _ (List.mem_append_right _ (List.mem_append_right _ (List.mem_append_right _ (List.mem_append_right _ (List.mem_append_right _ (List.mem_append_right _ (List.mem_append_right _ (List.mem_append_right _ (List.mem_append_right _ (List.mem_append_right _ (List.mem_append_right _ (List.mem_append_right _ (List.mem_append_right _ (List.mem_append_right _ (List.mem_append_right _ (List.mem_append_right _ (List.mem_append_right _ (List.mem_append_right _ (List.mem_append_left _ (List.mem_of_getElem? (i := 17) rfl))))))))))))))))))))
theorem q778 : (.methodLink R_law 43 y_Mo_worth : Cond) ∈ TB := List.mem_append_right _ (List.mem_append_right _ (List.mem_append_right _ (List.mem_append_right _ (List.mem_append_right _ (List.mem_append_right _ (List.mem_append_right _ (List.mem_append_right _ (List.mem_append_right _ (List.mem_append_right _ (List.mem_append_right _ (List.mem_append_right _ (List.mem_append_right _ (List.mem_append_right _ (List.mem_append_right _ (List.mem_append_right _ (List.mem_append_right _ (List.mem_append_right _ (List.mem_append_right _ (List.mem_append_left _ (List.mem_of_getElem? (i := 18) rfl))))))))))))))))))))
theorem q779 : (.instanceMethod y_Mo_worth : Cond) ∈ TB := List.mem_append_right _ (List.mem_append_right _ (List.mem_append_right _ (List.mem_append_right _ (List.mem_append_right _ (List.mem_append_right _ (List.mem_append_right _ (List.mem_append_right _ (List.mem_append_right _ (List.mem_append_right _ (List.mem_append_right _ (List.mem_append_right _ (List.mem_append_right _ (List.mem_append_right _ (List.mem_append_right _ (List.mem_append_right _ (List.mem_append_right _ (List.mem_append_right _ (List.mem_append_right _ (List.mem_append_left _ (List.mem_of_getElem? (i := 19) rfl))))))))))))))))))))
theorem q780 : (.selects R_Mo y_Mo_worth y_Mo_worth : Cond) ∈ TB := List.mem_append_right _ (List.mem_append_right _ (List.mem_append_right _ (List.mem_append_right _ (List.mem_append_right _ (List.mem_append_right _ (List.mem_append_right _ (List.mem_append_right _ (List.mem_append_right _ (List.mem_append_right _ (List.mem_append_right _ (List.mem_append_right _ (List.mem_append_right _ (List.mem_append_right _ (List.mem_append_right _ (List.mem_append_right _ (List.mem_append_right _ (List.mem_append_right _ (List.mem_append_right _ (List.mem_append_left _ (List.mem_of_getElem? (i := 20) rfl))))))))))))))))))))
theorem q781 : (.code y_Mo_worth prog_10_method_29_code 3 (some .int) : Cond) ∈ TB := List.mem_append_right _ (List.mem_append_right _ (List.mem_append_right _ (List.mem_append_right _ (List.mem_append_right _ (List.mem_append_right _ (List.mem_append_right _ (List.mem_append_right _ (List.mem_append_right _ (List.mem_append_right _ (List.mem_append_right _ (List.mem_append_right _ (List.mem_append_right _ (List.mem_append_right _ (List.mem_append_right _ (List.mem_append_right _ (List.mem_append_right _ (List.mem_append_right _ (List.mem_append_right _ (List.mem_append_left _ (List.mem_of_getElem? (i := 21) rfl))))))))))))))))))))
theorem q782 : (.methodLink R_law 47 y_Mo_pass : Cond) ∈ TB := List.mem_append_right _ (List.mem_append_right _ (List.mem_append_right _ (List.mem_append_right _ (List.mem_append_right _ (List.mem_append_right _ (List.mem_append_right _ (List.mem_append_right _ (List.mem_append_right _ (List.mem_append_right _ (List.mem_append_right _ (List.mem_append_right _ (List.mem_append_right _ (List.mem_append_right _ (List.mem_append_right _ (List.mem_append_right _ (List.mem_append_right _ (List.mem_append_right _ (List.mem_append_right _ (List.mem_append_left _ (List.mem_of_getElem? (i := 22) rfl))))))))))))))))))))
theorem q783 : (.instanceMethod y_Mo_pass : Cond) ∈ TB := List.mem_append_right _ (List.mem_append_right _ (List.mem_append_right _ (List.mem_append_right _ (List.mem_append_right _ (List.mem_append_right _ (List.mem_append_right _ (List.mem_append_right _ (List.mem_append_right _ (List.mem_append_right _ (List.mem_append_right _ (List.mem_append_right _ (List.mem_append_right _ (List.mem_append_right _ (List.mem_append_right _ (List.mem_append_right _ (List.mem_append_right _ (List.mem_append_right _ (List.mem_append_right _ (List.mem_append_left _ (List.mem_of_getElem? (i := 23) rfl))))))))))))))))))))
theorem q784 : (.selects R_Mo y_Mo_pass y_Mo_pass : Cond) ∈ TB := List.mem_append_right _ (List.mem_append_right _ (List.mem_append_right _ (List.mem_append_right _ (List.mem_append_right _ (List.mem_append_right _ (List.mem_append_right _ (List.mem_append_right _ (List.mem_append_right _ (List.mem_append_right _ (List.mem_append_right _ (List.mem_append_right _ (List.mem_append_right _ (List.mem_append_right _ (List.mem_append_right _ (List.mem_append_right _ (List.mem_append_right _ (List.mem_append_right _ (List.mem_append_right _ (List.mem_append_left _ (List.mem_of_getElem? (i := 24) rfl))))))))))))))))))))
theorem q785 : (.code y_Mo_pass prog_10_method_31_code 2 (some .int) : Cond) ∈ TB := List.mem_append_right _ (List.mem_append_right _ (List.mem_append_right _ (List.mem_append_right _ (List.mem_append_right _ (List.mem_append_right _ (List.mem_append_right _ (List.mem_append_right _ (List.mem_append_right _ (List.mem_append_right _ (List.mem_append_right _ (List.mem_append_right _ (List.mem_append_right _ (List.mem_append_right _ (List.mem_append_right _ (List.mem_append_right _ (List.mem_append_right _ (List.mem_append_right _ (List.mem_append_right _ (List.mem_append_left _ (List.mem_of_getElem? (i := 25) rfl))))))))))))))))))))
theorem q786 : (.constantLong R_Mo 137 (30) : Cond) ∈ TB := List.mem_append_right _ (List.mem_append_right _ (List.mem_append_right _ (List.mem_append_right _ (List.mem_append_right _ (List.mem_append_right _ (List.mem_append_right _ (List.mem_append_right _ (List.mem_append_right _ (List.mem_append_right _ (List.mem_append_right _ (List.mem_append_right _ (List.mem_append_right _ (List.mem_append_right _ (List.mem_append_right _ (List.mem_append_right _ (List.mem_append_right _ (List.mem_append_right _ (List.mem_append_right _ (List.mem_append_left _ (List.mem_of_getElem? (i := 26) rfl))))))))))))))))))))
theorem q787 : (.methodLink R_Mo 139 y_Mo_note : Cond) ∈ TB := List.mem_append_right _ (List.mem_append_right _ (List.mem_append_right _ (List.mem_append_right _ (List.mem_append_right _ (List.mem_append_right _ (List.mem_append_right _ (List.mem_append_right _ (List.mem_append_right _ (List.mem_append_right _ (List.mem_append_right _ (List.mem_append_right _ (List.mem_append_right _ (List.mem_append_right _ (List.mem_append_right _ (List.mem_append_right _ (List.mem_append_right _ (List.mem_append_right _ (List.mem_append_right _ (List.mem_append_left _ (List.mem_of_getElem? (i := 27) rfl))))))))))))))))))))
theorem q788 : (.instanceMethod y_Mo_note : Cond) ∈ TB := List.mem_append_right _ (List.mem_append_right _ (List.mem_append_right _ (List.mem_append_right _ (List.mem_append_right _ (List.mem_append_right _ (List.mem_append_right _ (List.mem_append_right _ (List.mem_append_right _ (List.mem_append_right _ (List.mem_append_right _ (List.mem_append_right _ (List.mem_append_right _ (List.mem_append_right _ (List.mem_append_right _ (List.mem_append_right _ (List.mem_append_right _ (List.mem_append_right _ (List.mem_append_right _ (List.mem_append_left _ (List.mem_of_getElem? (i := 28) rfl))))))))))))))))))))
theorem q789 : (.code y_Mo_note prog_10_method_30_code 2 none : Cond) ∈ TB := List.mem_append_right _ (List.mem_append_right _ (List.mem_append_right _ (List.mem_append_right _ (List.mem_append_right _ (List.mem_append_right _ (List.mem_append_right _ (List.mem_append_right _ (List.mem_append_right _ (List.mem_append_right _ (List.mem_append_right _ (List.mem_append_right _ (List.mem_append_right _ (List.mem_append_right _ (List.mem_append_right _ (List.mem_append_right _ (List.mem_append_right _ (List.mem_append_right _ (List.mem_append_right _ (List.mem_append_left _ (List.mem_of_getElem? (i := 29) rfl))))))))))))))))))))
theorem q790 : (.methodLink R_law 51 y_Mo_veto : Cond) ∈ TB := List.mem_append_right _ (List.mem_append_right _ (List.mem_append_right _ (List.mem_append_right _ (List.mem_append_right _ (List.mem_append_right _ (List.mem_append_right _ (List.mem_append_right _ (List.mem_append_right _ (List.mem_append_right _ (List.mem_append_right _ (List.mem_append_right _ (List.mem_append_right _ (List.mem_append_right _ (List.mem_append_right _ (List.mem_append_right _ (List.mem_append_right _ (List.mem_append_right _ (List.mem_append_right _ (List.mem_append_left _ (List.mem_of_getElem? (i := 30) rfl))))))))))))))))))))
theorem q791 : (.instanceMethod y_Mo_veto : Cond) ∈ TB := List.mem_append_right _ (List.mem_append_right _ (List.mem_append_right _ (List.mem_append_right _ (List.mem_append_right _ (List.mem_append_right _ (List.mem_append_right _ (List.mem_append_right _ (List.mem_append_right _ (List.mem_append_right _ (List.mem_append_right _ (List.mem_append_right _ (List.mem_append_right _ (List.mem_append_right _ (List.mem_append_right _ (List.mem_append_right _ (List.mem_append_right _ (List.mem_append_right _ (List.mem_append_right _ (List.mem_append_left _ (List.mem_of_getElem? (i := 31) rfl))))))))))))))))))))
theorem q792 : (.selects R_Mo y_Mo_veto y_Mo_veto : Cond) ∈ TB := List.mem_append_right _ (List.mem_append_right _ (List.mem_append_right _ (List.mem_append_right _ (List.mem_append_right _ (List.mem_append_right _ (List.mem_append_right _ (List.mem_append_right _ (List.mem_append_right _ (List.mem_append_right _ (List.mem_append_right _ (List.mem_append_right _ (List.mem_append_right _ (List.mem_append_right _ (List.mem_append_right _ (List.mem_append_right _ (List.mem_append_right _ (List.mem_append_right _ (List.mem_append_right _ (List.mem_append_left _ (List.mem_of_getElem? (i := 32) rfl))))))))))))))))))))
theorem q793 : (.code y_Mo_veto prog_10_method_32_code 4 (some .int) : Cond) ∈ TB := List.mem_append_right _ (List.mem_append_right _ (List.mem_append_right _ (List.mem_append_right _ (List.mem_append_right _ (List.mem_append_right _ (List.mem_append_right _ (List.mem_append_right _ (List.mem_append_right _ (List.mem_append_right _ (List.mem_append_right _ (List.mem_append_right _ (List.mem_append_right _ (List.mem_append_right _ (List.mem_append_right _ (List.mem_append_right _ (List.mem_append_right _ (List.mem_append_right _ (List.mem_append_right _ (List.mem_append_left _ (List.mem_of_getElem? (i := 33) rfl))))))))))))))))))))
theorem q794 : (.methodLink R_Mo 142 y_Mo_ones : Cond) ∈ TB := List.mem_append_right _ (List.mem_append_right _ (List.mem_append_right _ (List.mem_append_right _ (List.mem_append_right _ (List.mem_append_right _ (List.mem_append_right _ (List.mem_append_right _ (List.mem_append_right _ (List.mem_append_right _ (List.mem_append_right _ (List.mem_append_right _ (List.mem_append_right _ (List.mem_append_right _ (List.mem_append_right _ (List.mem_append_right _ (List.mem_append_right _ (List.mem_append_right _ (List.mem_append_right _ (List.mem_append_left _ (List.mem_of_getElem? (i := 34) rfl))))))))))))))))))))
theorem q795 : (.static y_Mo_ones : Cond) ∈ TB := List.mem_append_right _ (List.mem_append_right _ (List.mem_append_right _ (List.mem_append_right _ (List.mem_append_right _ (List.mem_append_right _ (List.mem_append_right _ (List.mem_append_right _ (List.mem_append_right _ (List.mem_append_right _ (List.mem_append_right _ (List.mem_append_right _ (List.mem_append_right _ (List.mem_append_right _ (List.mem_append_right _ (List.mem_append_right _ (List.mem_append_right _ (List.mem_append_right _ (List.mem_append_right _ (List.mem_append_left _ (List.mem_of_getElem? (i := 35) rfl))))))))))))))))))))
theorem q796 : (.code y_Mo_ones prog_10_method_5_code 3 (some .int) : Cond) ∈ TB := List.mem_append_right _ (List.mem_append_right _ (List.mem_append_right _ (List.mem_append_right _ (List.mem_append_right _ (List.mem_append_right _ (List.mem_append_right _ (List.mem_append_right _ (List.mem_append_right _ (List.mem_append_right _ (List.mem_append_right _ (List.mem_append_right _ (List.mem_append_right _ (List.mem_append_right _ (List.mem_append_right _ (List.mem_append_right _ (List.mem_append_right _ (List.mem_append_right _ (List.mem_append_right _ (List.mem_append_left _ (List.mem_of_getElem? (i := 36) rfl))))))))))))))))))))
theorem q797 : (.methodLink R_law 55 y_Mo_order : Cond) ∈ TB := List.mem_append_right _ (List.mem_append_right _ (List.mem_append_right _ (List.mem_append_right _ (List.mem_append_right _ (List.mem_append_right _ (List.mem_append_right _ (List.mem_append_right _ (List.mem_append_right _ (List.mem_append_right _ (List.mem_append_right _ (List.mem_append_right _ (List.mem_append_right _ (List.mem_append_right _ (List.mem_append_right _ (List.mem_append_right _ (List.mem_append_right _ (List.mem_append_right _ (List.mem_append_right _ (List.mem_append_left _ (List.mem_of_getElem? (i := 37) rfl))))))))))))))))))))
theorem q798 : (.instanceMethod y_Mo_order : Cond) ∈ TB := List.mem_append_right _ (List.mem_append_right _ (List.mem_append_right _ (List.mem_append_right _ (List.mem_append_right _ (List.mem_append_right _ (List.mem_append_right _ (List.mem_append_right _ (List.mem_append_right _ (List.mem_append_right _ (List.mem_append_right _ (List.mem_append_right _ (List.mem_append_right _ (List.mem_append_right _ (List.mem_append_right _ (List.mem_append_right _ (List.mem_append_right _ (List.mem_append_right _ (List.mem_append_right _ (List.mem_append_left _ (List.mem_of_getElem? (i := 38) rfl))))))))))))))))))))
theorem q799 : (.selects R_Mo y_Mo_order y_Mo_order : Cond) ∈ TB := List.mem_append_right _ (List.mem_append_right _ (List.mem_append_right _ (List.mem_append_right _ (List.mem_append_right _ (List.mem_append_right _ (List.mem_append_right _ (List.mem_append_right _ (List.mem_append_right _ (List.mem_append_right _ (List.mem_append_right _ (List.mem_append_right _ (List.mem_append_right _ (List.mem_append_right _ (List.mem_append_right _ (List.mem_append_right _ (List.mem_append_right _ (List.mem_append_right _ (List.mem_append_right _ (List.mem_append_left _ (List.mem_of_getElem? (i := 39) rfl))))))))))))))))))))
theorem q800 : (.code y_Mo_order prog_10_method_34_code 2 (some .int) : Cond) ∈ TB := List.mem_append_right _ (List.mem_append_right _ (List.mem_append_right _ (List.mem_append_right _ (List.mem_append_right _ (List.mem_append_right _ (List.mem_append_right _ (List.mem_append_right _ (List.mem_append_right _ (List.mem_append_right _ (List.mem_append_right _ (List.mem_append_right _ (List.mem_append_right _ (List.mem_append_right _ (List.mem_append_right _ (List.mem_append_right _ (List.mem_append_right _ (List.mem_append_right _ (List.mem_append_right _ (List.mem_append_right _ (List.mem_append_left _ (List.mem_of_getElem? (i := 0) rfl)))))))))))))))))))))
theorem q801 : (.methodLink R_Mo 145 y_Mo_canOrder : Cond) ∈ TB := List.mem_append_right _ (List.mem_append_right _ (List.mem_append_right _ (List.mem_append_right _ (List.mem_append_right _ (List.mem_append_right _ (List.mem_append_right _ (List.mem_append_right _ (List.mem_append_right _ (List.mem_append_right _ (List.mem_append_right _ (List.mem_append_right _ (List.mem_append_right _ (List.mem_append_right _ (List.mem_append_right _ (List.mem_append_right _ (List.mem_append_right _ (List.mem_append_right _ (List.mem_append_right _ (List.mem_append_right _ (List.mem_append_left _ (List.mem_of_getElem? (i := 1) rfl)))))))))))))))))))))
theorem q802 : (.instanceMethod y_Mo_canOrder : Cond) ∈ TB := List.mem_append_right _ (List.mem_append_right _ (List.mem_append_right _ (List.mem_append_right _ (List.mem_append_right _ (List.mem_append_right _ (List.mem_append_right _ (List.mem_append_right _ (List.mem_append_right _ (List.mem_append_right _ (List.mem_append_right _ (List.mem_append_right _ (List.mem_append_right _ (List.mem_append_right _ (List.mem_append_right _ (List.mem_append_right _ (List.mem_append_right _ (List.mem_append_right _ (List.mem_append_right _ (List.mem_append_right _ (List.mem_append_left _ (List.mem_of_getElem? (i := 2) rfl)))))))))))))))))))))
theorem q803 : (.code y_Mo_canOrder prog_10_method_33_code 3 (some .boolean) : Cond) ∈ TB := List.mem_append_right _ (List.mem_append_right _ (List.mem_append_right _ (List.mem_append_right _ (List.mem_append_right _ (List.mem_append_right _ (List.mem_append_right _ (List.mem_append_right _ (List.mem_append_right _ (List.mem_append_right _ (List.mem_append_right _ (List.mem_append_right _ (List.mem_append_right _ (List.mem_append_right _ (List.mem_append_right _ (List.mem_append_right _ (List.mem_append_right _ (List.mem_append_right _ (List.mem_append_right _ (List.mem_append_right _ (List.mem_append_left _ (List.mem_of_getElem? (i := 3) rfl)))))))))))))))))))))
theorem q804 : (.methodLink R_law 59 y_Mo_undo : Cond) ∈ TB := List.mem_append_right _ (List.mem_append_right _ (List.mem_append_right _ (List.mem_append_right _ (List.mem_append_right _ (List.mem_append_right _ (List.mem_append_right _ (List.mem_append_right _ (List.mem_append_right _ (List.mem_append_right _ (List.mem_append_right _ (List.mem_append_right _ (List.mem_append_right _ (List.mem_append_right _ (List.mem_append_right _ (List.mem_append_right _ (List.mem_append_right _ (List.mem_append_right _ (List.mem_append_right _ (List.mem_append_right _ (List.mem_append_left _ (List.mem_of_getElem? (i := 4) rfl)))))))))))))))))))))
theorem q805 : (.instanceMethod y_Mo_undo : Cond) ∈ TB := List.mem_append_right _ (List.mem_append_right _ (List.mem_append_right _ (List.mem_append_right _ (List.mem_append_right _ (List.mem_append_right _ (List.mem_append_right _ (List.mem_append_right _ (List.mem_append_right _ (List.mem_append_right _ (List.mem_append_right _ (List.mem_append_right _ (List.mem_append_right _ (List.mem_append_right _ (List.mem_append_right _ (List.mem_append_right _ (List.mem_append_right _ (List.mem_append_right _ (List.mem_append_right _ (List.mem_append_right _ (List.mem_append_left _ (List.mem_of_getElem? (i := 5) rfl)))))))))))))))))))))
theorem q806 : (.selects R_Mo y_Mo_undo y_Mo_undo : Cond) ∈ TB := List.mem_append_right _ (List.mem_append_right _ (List.mem_append_right _ (List.mem_append_right _ (List.mem_append_right _ (List.mem_append_right _ (List.mem_append_right _ (List.mem_append_right _ (List.mem_append_right _ (List.mem_append_right _ (List.mem_append_right _ (List.mem_append_right _ (List.mem_append_right _ (List.mem_append_right _ (List.mem_append_right _ (List.mem_append_right _ (List.mem_append_right _ (List.mem_append_right _ (List.mem_append_right _ (List.mem_append_right _ (List.mem_append_left _ (List.mem_of_getElem? (i := 6) rfl)))))))))))))))))))))
theorem q807 : (.code y_Mo_undo prog_10_method_35_code 2 (some .int) : Cond) ∈ TB := List.mem_append_right _ (List.mem_append_right _ (List.mem_append_right _ (List.mem_append_right _ (List.mem_append_right _ (List.mem_append_right _ (List.mem_append_right _ (List.mem_append_right _ (List.mem_append_right _ (List.mem_append_right _ (List.mem_append_right _ (List.mem_append_right _ (List.mem_append_right _ (List.mem_append_right _ (List.mem_append_right _ (List.mem_append_right _ (List.mem_append_right _ (List.mem_append_right _ (List.mem_append_right _ (List.mem_append_right _ (List.mem_append_left _ (List.mem_of_getElem? (i := 7) rfl)))))))))))))))))))))
theorem q808 : (.methodLink R_law 63 y_Mo_most : Cond) ∈ TB := List.mem_append_right _ (List.mem_append_right _ (List.mem_append_right _ (List.mem_append_right _ (List.mem_append_right _ (List.mem_append_right _ (List.mem_append_right _ (List.mem_append_right _ (List.mem_append_right _ (List.mem_append_right _ (List.mem_append_right _ (List.mem_append_right _ (List.mem_append_right _ (List.mem_append_right _ (List.mem_append_right _ (List.mem_append_right _ (List.mem_append_right _ (List.mem_append_right _ (List.mem_append_right _ (List.mem_append_right _ (List.mem_append_left _ (List.mem_of_getElem? (i := 8) rfl)))))))))))))))))))))
theorem q809 : (.instanceMethod y_Mo_most : Cond) ∈ TB := List.mem_append_right _ (List.mem_append_right _ (List.mem_append_right _ (List.mem_append_right _ (List.mem_append_right _ (List.mem_append_right _ (List.mem_append_right _ (List.mem_append_right _ (List.mem_append_right _ (List.mem_append_right _ (List.mem_append_right _ (List.mem_append_right _ (List.mem_append_right _ (List.mem_append_right _ (List.mem_append_right _ (List.mem_append_right _ (List.mem_append_right _ (List.mem_append_right _ (List.mem_append_right _ (List.mem_append_right _ (List.mem_append_left _ (List.mem_of_getElem? (i := 9) rfl)))))))))))))))))))))
theorem q810 : (.selects R_Mo y_Mo_most y_Mo_most : Cond) ∈ TB := List.mem_append_right _ (List.mem_append_right _ (List.mem_append_right _ (List.mem_append_right _ (List.mem_append_right _ (List.mem_append_right _ (List.mem_append_right _ (List.mem_append_right _ (List.mem_append_right _ (List.mem_append_right _ (List.mem_append_right _ (List.mem_append_right _ (List.mem_append_right _ (List.mem_append_right _ (List.mem_append_right _ (List.mem_append_right _ (List.mem_append_right _ (List.mem_append_right _ (List.mem_append_right _ (List.mem_append_right _ (List.mem_append_left _ (List.mem_of_getElem? (i := 10) rfl)))))))))))))))))))))
theorem q811 : (.code y_Mo_most prog_10_method_36_code 3 (some .int) : Cond) ∈ TB := List.mem_append_right _ (List.mem_append_right _ (List.mem_append_right _ (List.mem_append_right _ (List.mem_append_right _ (List.mem_append_right _ (List.mem_append_right _ (List.mem_append_right _ (List.mem_append_right _ (List.mem_append_right _ (List.mem_append_right _ (List.mem_append_right _ (List.mem_append_right _ (List.mem_append_right _ (List.mem_append_right _ (List.mem_append_right _ (List.mem_append_right _ (List.mem_append_right _ (List.mem_append_right _ (List.mem_append_right _ (List.mem_append_left _ (List.mem_of_getElem? (i := 11) rfl)))))))))))))))))))))
theorem q812 : (.methodLink R_Mo 148 y_Mo_mostToAll : Cond) ∈ TB := List.mem_append_right _ (List.mem_append_right _ (List.mem_append_right _ (List.mem_append_right _ (List.mem_append_right _ (List.mem_append_right _ (List.mem_append_right _ (List.mem_append_right _ (List.mem_append_right _ (List.mem_append_right _ (List.mem_append_right _ (List.mem_append_right _ (List.mem_append_right _ (List.mem_append_right _ (List.mem_append_right _ (List.mem_append_right _ (List.mem_append_right _ (List.mem_append_right _ (List.mem_append_right _ (List.mem_append_right _ (List.mem_append_left _ (List.mem_of_getElem? (i := 12) rfl)))))))))))))))))))))
theorem q813 : (.instanceMethod y_Mo_mostToAll : Cond) ∈ TB := List.mem_append_right _ (List.mem_append_right _ (List.mem_append_right _ (List.mem_append_right _ (List.mem_append_right _ (List.mem_append_right _ (List.mem_append_right _ (List.mem_append_right _ (List.mem_append_right _ (List.mem_append_right _ (List.mem_append_right _ (List.mem_append_right _ (List.mem_append_right _ (List.mem_append_right _ (List.mem_append_right _ (List.mem_append_right _ (List.mem_append_right _ (List.mem_append_right _ (List.mem_append_right _ (List.mem_append_right _ (List.mem_append_left _ (List.mem_of_getElem? (i := 13) rfl)))))))))))))))))))))
theorem q814 : (.code y_Mo_mostToAll prog_10_method_26_code 8 (some .int) : Cond) ∈ TB := List.mem_append_right _ (List.mem_append_right _ (List.mem_append_right _ (List.mem_append_right _ (List.mem_append_right _ (List.mem_append_right _ (List.mem_append_right _ (List.mem_append_right _ (List.mem_append_right _ (List.mem_append_right _ (List.mem_append_right _ (List.mem_append_right _ (List.mem_append_right _ (List.mem_append_right _ (List.mem_append_right _ (List.mem_append_right _ (List.mem_append_right _ (List.mem_append_right _ (List.mem_append_right _ (List.mem_append_right _ (List.mem_append_left _ (List.mem_of_getElem? (i := 14) rfl)))))))))))))))))))))
theorem q815 : (.methodLink R_law 67 y_Mo_fair : Cond) ∈ TB := List.mem_append_right _ (List.mem_append_right _ (List.mem_append_right _ (List.mem_append_right _ (List.mem_append_right _ (List.mem_append_right _ (List.mem_append_right _ (List.mem_append_right _ (List.mem_append_right _ (List.mem_append_right _ (List.mem_append_right _ (List.mem_append_right _ (List.mem_append_right _ (List.mem_append_right _ (List.mem_append_right _ (List.mem_append_right _ (List.mem_append_right _ (List.mem_append_right _ (List.mem_append_right _ (List.mem_append_right _ (List.mem_append_left _ (List.mem_of_getElem? (i := 15) rfl)))))))))))))))))))))
theorem q816 : (.instanceMethod y_Mo_fair : Cond) ∈ TB := List.mem_append_right _ (List.mem_append_right _ (List.mem_append_right _ (List.mem_append_right _ (List.mem_append_right _ (List.mem_append_right _ (List.mem_append_right _ (List.mem_append_right _ (List.mem_append_right _ (List.mem_append_right _ (List.mem_append_right _ (List.mem_append_right _ (List.mem_append_right _ (List.mem_append_right _ (List.mem_append_right _ (List.mem_append_right _ (List.mem_append_right _ (List.mem_append_right _ (List.mem_append_right _ (List.mem_append_right _ (List.mem_append_left _ (List.mem_of_getElem? (i := 16) rfl)))))))))))))))))))))
theorem q817 : (.selects R_Mo y_Mo_fair y_Mo_fair : Cond) ∈ TB := List.mem_append_right _ (List.mem_append_right _ (List.mem_append_right _ (List.mem_append_right _ (List.mem_append_right _ (List.mem_append_right _ (List.mem_append_right _ (List.mem_append_right _ (List.mem_append_right _ (List.mem_append_right _ (List.mem_append_right _ (List.mem_append_right _ (List.mem_append_right _ (List.mem_append_right _ (List.mem_append_right _ (List.mem_append_right _ (List.mem_append_right _ (List.mem_append_right _ (List.mem_append_right _ (List.mem_append_right _ (List.mem_append_left _ (List.mem_of_getElem? (i := 17) rfl)))))))))))))))))))))
theorem q818 : (.code y_Mo_fair prog_10_method_38_code 6 (some .int) : Cond) ∈ TB := List.mem_append_right _ (List.mem_append_right _ (List.mem_append_right _ (List.mem_append_right _ (List.mem_append_right _ (List.mem_append_right _ (List.mem_append_right _ (List.mem_append_right _ (List.mem_append_right _ (List.mem_append_right _ (List.mem_append_right _ (List.mem_append_right _ (List.mem_append_right _ (List.mem_append_right _ (List.mem_append_right _ (List.mem_append_right _ (List.mem_append_right _ (List.mem_append_right _ (List.mem_append_right _ (List.mem_append_right _ (List.mem_append_left _ (List.mem_of_getElem? (i := 18) rfl)))))))))))))))))))))
theorem q819 : (.methodLink R_Mo 151 y_Mo_worstOff : Cond) ∈ TB := List.mem_append_right _ (List.mem_append_right _ (List.mem_append_right _ (List.mem_append_right _ (List.mem_append_right _ (List.mem_append_right _ (List.mem_append_right _ (List.mem_append_right _ (List.mem_append_right _ (List.mem_append_right _ (List.mem_append_right _ (List.mem_append_right _ (List.mem_append_right _ (List.mem_append_right _ (List.mem_append_right _ (List.mem_append_right _ (List.mem_append_right _ (List.mem_append_right _ (List.mem_append_right _ (List.mem_append_right _ (List.mem_append_left _ (List.mem_of_getElem? (i := 19) rfl)))))))))))))))))))))
theorem q820 : (.instanceMethod y_Mo_worstOff : Cond) ∈ TB := List.mem_append_right _ (List.mem_append_right _ (List.mem_append_right _ (List.mem_append_right _ (List.mem_append_right _ (List.mem_append_right _ (List.mem_append_right _ (List.mem_append_right _ (List.mem_append_right _ (List.mem_append_right _ (List.mem_append_right _ (List.mem_append_right _ (List.mem_append_right _ (List.mem_append_right _ (List.mem_append_right _ (List.mem_append_right _ (List.mem_append_right _ (List.mem_append_right _ (List.mem_append_right _ (List.mem_append_right _ (List.mem_append_left _ (List.mem_of_getElem? (i := 20) rfl)))))))))))))))))))))
theorem q821 : (.code y_Mo_worstOff prog_10_method_37_code 4 (some .int) : Cond) ∈ TB := List.mem_append_right _ (List.mem_append_right _ (List.mem_append_right _ (List.mem_append_right _ (List.mem_append_right _ (List.mem_append_right _ (List.mem_append_right _ (List.mem_append_right _ (List.mem_append_right _ (List.mem_append_right _ (List.mem_append_right _ (List.mem_append_right _ (List.mem_append_right _ (List.mem_append_right _ (List.mem_append_right _ (List.mem_append_right _ (List.mem_append_right _ (List.mem_append_right _ (List.mem_append_right _ (List.mem_append_right _ (List.mem_append_left _ (List.mem_of_getElem? (i := 21) rfl)))))))))))))))))))))
theorem q822 : (.methodLink R_law 71 y_Mo_beats : Cond) ∈ TB := List.mem_append_right _ (List.mem_append_right _ (List.mem_append_right _ (List.mem_append_right _ (List.mem_append_right _ (List.mem_append_right _ (List.mem_append_right _ (List.mem_append_right _ (List.mem_append_right _ (List.mem_append_right _ (List.mem_append_right _ (List.mem_append_right _ (List.mem_append_right _ (List.mem_append_right _ (List.mem_append_right _ (List.mem_append_right _ (List.mem_append_right _ (List.mem_append_right _ (List.mem_append_right _ (List.mem_append_right _ (List.mem_append_left _ (List.mem_of_getElem? (i := 22) rfl)))))))))))))))))))))
theorem q823 : (.instanceMethod y_Mo_beats : Cond) ∈ TB := List.mem_append_right _ (List.mem_append_right _ (List.mem_append_right _ (List.mem_append_right _ (List.mem_append_right _ (List.mem_append_right _ (List.mem_append_right _ (List.mem_append_right _ (List.mem_append_right _ (List.mem_append_right _ (List.mem_append_right _ (List.mem_append_right _ (List.mem_append_right _ (List.mem_append_right _ (List.mem_append_right _ (List.mem_append_right _ (List.mem_append_right _ (List.mem_append_right _ (List.mem_append_right _ (List.mem_append_right _ (List.mem_append_left _ (List.mem_of_getElem? (i := 23) rfl)))))))))))))))))))))
theorem q824 : (.selects R_Mo y_Mo_beats y_Mo_beats : Cond) ∈ TB := List.mem_append_right _ (List.mem_append_right _ (List.mem_append_right _ (List.mem_append_right _ (List.mem_append_right _ (List.mem_append_right _ (List.mem_append_right _ (List.mem_append_right _ (List.mem_append_right _ (List.mem_append_right _ (List.mem_append_right _ (List.mem_append_right _ (List.mem_append_right _ (List.mem_append_right _ (List.mem_append_right _ (List.mem_append_right _ (List.mem_append_right _ (List.mem_append_right _ (List.mem_append_right _ (List.mem_append_right _ (List.mem_append_left _ (List.mem_of_getElem? (i := 24) rfl)))))))))))))))))))))
theorem q825 : (.code y_Mo_beats prog_10_method_41_code 3 (some .int) : Cond) ∈ TB := List.mem_append_right _ (List.mem_append_right _ (List.mem_append_right _ (List.mem_append_right _ (List.mem_append_right _ (List.mem_append_right _ (List.mem_append_right _ (List.mem_append_right _ (List.mem_append_right _ (List.mem_append_right _ (List.mem_append_right _ (List.mem_append_right _ (List.mem_append_right _ (List.mem_append_right _ (List.mem_append_right _ (List.mem_append_right _ (List.mem_append_right _ (List.mem_append_right _ (List.mem_append_right _ (List.mem_append_right _ (List.mem_append_left _ (List.mem_of_getElem? (i := 25) rfl)))))))))))))))))))))
theorem q826 : (.methodLink R_Mo 154 y_Mo_isLeft : Cond) ∈ TB := List.mem_append_right _ (List.mem_append_right _ (List.mem_append_right _ (List.mem_append_right _ (List.mem_append_right _ (List.mem_append_right _ (List.mem_append_right _ (List.mem_append_right _ (List.mem_append_right _ (List.mem_append_right _ (List.mem_append_right _ (List.mem_append_right _ (List.mem_append_right _ (List.mem_append_right _ (List.mem_append_right _ (List.mem_append_right _ (List.mem_append_right _ (List.mem_append_right _ (List.mem_append_right _ (List.mem_append_right _ (List.mem_append_left _ (List.mem_of_getElem? (i := 26) rfl)))))))))))))))))))))
theorem q827 : (.instanceMethod y_Mo_isLeft : Cond) ∈ TB := List.mem_append_right _ (List.mem_append_right _ (List.mem_append_right _ (List.mem_append_right _ (List.mem_append_right _ (List.mem_append_right _ (List.mem_append_right _ (List.mem_append_right _ (List.mem_append_right _ (List.mem_append_right _ (List.mem_append_right _ (List.mem_append_right _ (List.mem_append_right _ (List.mem_append_right _ (List.mem_append_right _ (List.mem_append_right _ (List.mem_append_right _ (List.mem_append_right _ (List.mem_append_right _ (List.mem_append_right _ (List.mem_append_left _ (List.mem_of_getElem? (i := 27) rfl)))))))))))))))))))))
theorem q828 : (.code y_Mo_isLeft prog_10_method_40_code 2 (some .boolean) : Cond) ∈ TB := List.mem_append_right _ (List.mem_append_right _ (List.mem_append_right _ (List.mem_append_right _ (List.mem_append_right _ (List.mem_append_right _ (List.mem_append_right _ (List.mem_append_right _ (List.mem_append_right _ (List.mem_append_right _ (List.mem_append_right _ (List.mem_append_right _ (List.mem_append_right _ (List.mem_append_right _ (List.mem_append_right _ (List.mem_append_right _ (List.mem_append_right _ (List.mem_append_right _ (List.mem_append_right _ (List.mem_append_right _ (List.mem_append_left _ (List.mem_of_getElem? (i := 28) rfl)))))))))))))))))))))
theorem q829 : (.methodLink R_Mo 157 y_Mo_lead : Cond) ∈ TB := List.mem_append_right _ (List.mem_append_right _ (List.mem_append_right _ (List.mem_append_right _ (List.mem_append_right _ (List.mem_append_right _ (List.mem_append_right _ (List.mem_append_right _ (List.mem_append_right _ (List.mem_append_right _ (List.mem_append_right _ (List.mem_append_right _ (List.mem_append_right _ (List.mem_append_right _ (List.mem_append_right _ (List.mem_append_right _ (List.mem_append_right _ (List.mem_append_right _ (List.mem_append_right _ (List.mem_append_right _ (List.mem_append_left _ (List.mem_of_getElem? (i := 29) rfl)))))))))))))))))))))
theorem q830 : (.instanceMethod y_Mo_lead : Cond) ∈ TB := List.mem_append_right _ (List.mem_append_right _ (List.mem_append_right _ (List.mem_append_right _ (List.mem_append_right _ (List.mem_append_right _ (List.mem_append_right _ (List.mem_append_right _ (List.mem_append_right _ (List.mem_append_right _ (List.mem_append_right _ (List.mem_append_right _ (List.mem_append_right _ (List.mem_append_right _ (List.mem_append_right _ (List.mem_append_right _ (List.mem_append_right _ (List.mem_append_right _ (List.mem_append_right _ (List.mem_append_right _ (List.mem_append_left _ (List.mem_of_getElem? (i := 30) rfl)))))))))))))))))))))
theorem q831 : (.code y_Mo_lead prog_10_method_39_code 6 (some .int) : Cond) ∈ TB := List.mem_append_right _ (List.mem_append_right _ (List.mem_append_right _ (List.mem_append_right _ (List.mem_append_right _ (List.mem_append_right _ (List.mem_append_right _ (List.mem_append_right _ (List.mem_append_right _ (List.mem_append_right _ (List.mem_append_right _ (List.mem_append_right _ (List.mem_append_right _ (List.mem_append_right _ (List.mem_append_right _ (List.mem_append_right _ (List.mem_append_right _ (List.mem_append_right _ (List.mem_append_right _ (List.mem_append_right _ (List.mem_append_left _ (List.mem_of_getElem? (i := 31) rfl)))))))))))))))))))))
theorem q832 : (.methodLink R_law 75 y_Mo_champion : Cond) ∈ TB := List.mem_append_right _ (List.mem_append_right _ (List.mem_append_right _ (List.mem_append_right _ (List.mem_append_right _ (List.mem_append_right _ (List.mem_append_right _ (List.mem_append_right _ (List.mem_append_right _ (List.mem_append_right _ (List.mem_append_right _ (List.mem_append_right _ (List.mem_append_right _ (List.mem_append_right _ (List.mem_append_right _ (List.mem_append_right _ (List.mem_append_right _ (List.mem_append_right _ (List.mem_append_right _ (List.mem_append_right _ (List.mem_append_left _ (List.mem_of_getElem? (i := 32) rfl)))))))))))))))))))))
theorem q833 : (.instanceMethod y_Mo_champion : Cond) ∈ TB := List.mem_append_right _ (List.mem_append_right _ (List.mem_append_right _ (List.mem_append_right _ (List.mem_append_right _ (List.mem_append_right _ (List.mem_append_right _ (List.mem_append_right _ (List.mem_append_right _ (List.mem_append_right _ (List.mem_append_right _ (List.mem_append_right _ (List.mem_append_right _ (List.mem_append_right _ (List.mem_append_right _ (List.mem_append_right _ (List.mem_append_right _ (List.mem_append_right _ (List.mem_append_right _ (List.mem_append_right _ (List.mem_append_left _ (List.mem_of_getElem? (i := 33) rfl)))))))))))))))))))))
theorem q834 : (.selects R_Mo y_Mo_champion y_Mo_champion : Cond) ∈ TB := List.mem_append_right _ (List.mem_append_right _ (List.mem_append_right _ (List.mem_append_right _ (List.mem_append_right _ (List.mem_append_right _ (List.mem_append_right _ (List.mem_append_right _ (List.mem_append_right _ (List.mem_append_right _ (List.mem_append_right _ (List.mem_append_right _ (List.mem_append_right _ (List.mem_append_right _ (List.mem_append_right _ (List.mem_append_right _ (List.mem_append_right _ (List.mem_append_right _ (List.mem_append_right _ (List.mem_append_right _ (List.mem_append_left _ (List.mem_of_getElem? (i := 34) rfl)))))))))))))))))))))
theorem q835 : (.code y_Mo_champion prog_10_method_42_code 4 (some .int) : Cond) ∈ TB := List.mem_append_right _ (List.mem_append_right _ (List.mem_append_right _ (List.mem_append_right _ (List.mem_append_right _ (List.mem_append_right _ (List.mem_append_right _ (List.mem_append_right _ (List.mem_append_right _ (List.mem_append_right _ (List.mem_append_right _ (List.mem_append_right _ (List.mem_append_right _ (List.mem_append_right _ (List.mem_append_right _ (List.mem_append_right _ (List.mem_append_right _ (List.mem_append_right _ (List.mem_append_right _ (List.mem_append_right _ (List.mem_append_left _ (List.mem_of_getElem? (i := 35) rfl)))))))))))))))))))))
theorem q836 : (.methodLink R_law 79 y_Mo_middle : Cond) ∈ TB := List.mem_append_right _ (List.mem_append_right _ (List.mem_append_right _ (List.mem_append_right _ (List.mem_append_right _ (List.mem_append_right _ (List.mem_append_right _ (List.mem_append_right _ (List.mem_append_right _ (List.mem_append_right _ (List.mem_append_right _ (List.mem_append_right _ (List.mem_append_right _ (List.mem_append_right _ (List.mem_append_right _ (List.mem_append_right _ (List.mem_append_right _ (List.mem_append_right _ (List.mem_append_right _ (List.mem_append_right _ (List.mem_append_left _ (List.mem_of_getElem? (i := 36) rfl)))))))))))))))))))))
theorem q837 : (.instanceMethod y_Mo_middle : Cond) ∈ TB := List.mem_append_right _ (List.mem_append_right _ (List.mem_append_right _ (List.mem_append_right _ (List.mem_append_right _ (List.mem_append_right _ (List.mem_append_right _ (List.mem_append_right _ (List.mem_append_right _ (List.mem_append_right _ (List.mem_append_right _ (List.mem_append_right _ (List.mem_append_right _ (List.mem_append_right _ (List.mem_append_right _ (List.mem_append_right _ (List.mem_append_right _ (List.mem_append_right _ (List.mem_append_right _ (List.mem_append_right _ (List.mem_append_left _ (List.mem_of_getElem? (i := 37) rfl)))))))))))))))))))))
theorem q838 : (.selects R_Mo y_Mo_middle y_Mo_middle : Cond) ∈ TB := List.mem_append_right _ (List.mem_append_right _ (List.mem_append_right _ (List.mem_append_right _ (List.mem_append_right _ (List.mem_append_right _ (List.mem_append_right _ (List.mem_append_right _ (List.mem_append_right _ (List.mem_append_right _ (List.mem_append_right _ (List.mem_append_right _ (List.mem_append_right _ (List.mem_append_right _ (List.mem_append_right _ (List.mem_append_right _ (List.mem_append_right _ (List.mem_append_right _ (List.mem_append_right _ (List.mem_append_right _ (List.mem_append_left _ (List.mem_of_getElem? (i := 38) rfl)))))))))))))))))))))
theorem q839 : (.code y_Mo_middle prog_10_method_43_code 7 (some .int) : Cond) ∈ TB := List.mem_append_right _ (List.mem_append_right _ (List.mem_append_right _ (List.mem_append_right _ (List.mem_append_right _ (List.mem_append_right _ (List.mem_append_right _ (List.mem_append_right _ (List.mem_append_right _ (List.mem_append_right _ (List.mem_append_right _ (List.mem_append_right _ (List.mem_append_right _ (List.mem_append_right _ (List.mem_append_right _ (List.mem_append_right _ (List.mem_append_right _ (List.mem_append_right _ (List.mem_append_right _ (List.mem_append_right _ (List.mem_append_left _ (List.mem_of_getElem? (i := 39) rfl)))))))))))))))))))))
theorem q840 : (.methodLink R_law 83 y_Mo_struck : Cond) ∈ TB := List.mem_append_right _ (List.mem_append_right _ (List.mem_append_right _ (List.mem_append_right _ (List.mem_append_right _ (List.mem_append_right _ (List.mem_append_right _ (List.mem_append_right _ (List.mem_append_right _ (List.mem_append_right _ (List.mem_append_right _ (List.mem_append_right _ (List.mem_append_right _ (List.mem_append_right _ (List.mem_append_right _ (List.mem_append_right _ (List.mem_append_right _ (List.mem_append_right _ (List.mem_append_right _ (List.mem_append_right _ (List.mem_append_right _ (List.mem_append_left _ (List.mem_of_getElem? (i := 0) rfl))))))))))))))))))))))
theorem q841 : (.instanceMethod y_Mo_struck : Cond) ∈ TB := List.mem_append_right _ (List.mem_append_right _ (List.mem_append_right _ (List.mem_append_right _ (List.mem_append_right _ (List.mem_append_right _ (List.mem_append_right _ (List.mem_append_right _ (List.mem_append_right _ (List.mem_append_right _ (List.mem_append_right _ (List.mem_append_right _ (List.mem_append_right _ (List.mem_append_right _ (List.mem_append_right _ (List.mem_append_right _ (List.mem_append_right _ (List.mem_append_right _ (List.mem_append_right _ (List.mem_append_right _ (List.mem_append_right _ (List.mem_append_left _ (List.mem_of_getElem? (i := 1) rfl))))))))))))))))))))))
theorem q842 : (.selects R_Mo y_Mo_struck y_Mo_struck : Cond) ∈ TB := List.mem_append_right _ (List.mem_append_right _ (List.mem_append_right _ (List.mem_append_right _ (List.mem_append_right _ (List.mem_append_right _ (List.mem_append_right _ (List.mem_append_right _ (List.mem_append_right _ (List.mem_append_right _ (List.mem_append_right _ (List.mem_append_right _ (List.mem_append_right _ (List.mem_append_right _ (List.mem_append_right _ (List.mem_append_right _ (List.mem_append_right _ (List.mem_append_right _ (List.mem_append_right _ (List.mem_append_right _ (List.mem_append_right _ (List.mem_append_left _ (List.mem_of_getElem? (i := 2) rfl))))))))))))))))))))))
theorem q843 : (.code y_Mo_struck prog_10_method_44_code 4 (some .int) : Cond) ∈ TB := List.mem_append_right _ (List.mem_append_right _ (List.mem_append_right _ (List.mem_append_right _ (List.mem_append_right _ (List.mem_append_right _ (List.mem_append_right _ (List.mem_append_right _ (List.mem_append_right _ (List.mem_append_right _ (List.mem_append_right _ (List.mem_append_right _ (List.mem_append_right _ (List.mem_append_right _ (List.mem_append_right _ (List.mem_append_right _ (List.mem_append_right _ (List.mem_append_right _ (List.mem_append_right _ (List.mem_append_right _ (List.mem_append_right _ (List.mem_append_left _ (List.mem_of_getElem? (i := 3) rfl))))))))))))))))))))))
theorem q844 : (.methodLink R_Mo 161 y_Mo_leastOf : Cond) ∈ TB := List.mem_append_right _ (List.mem_append_right _ (List.mem_append_right _ (List.mem_append_right _ (List.mem_append_right _ (List.mem_append_right _ (List.mem_append_right _ (List.mem_append_right _ (List.mem_append_right _ (List.mem_append_right _ (List.mem_append_right _ (List.mem_append_right _ (List.mem_append_right _ (List.mem_append_right _ (List.mem_append_right _ (List.mem_append_right _ (List.mem_append_right _ (List.mem_append_right _ (List.mem_append_right _ (List.mem_append_right _ (List.mem_append_right _ (List.mem_append_left _ (List.mem_of_getElem? (i := 4) rfl))))))))))))))))))))))
theorem q845 : (.instanceMethod y_Mo_leastOf : Cond) ∈ TB := List.mem_append_right _ (List.mem_append_right _ (List.mem_append_right _ (List.mem_append_right _ (List.mem_append_right _ (List.mem_append_right _ (List.mem_append_right _ (List.mem_append_right _ (List.mem_append_right _ (List.mem_append_right _ (List.mem_append_right _ (List.mem_append_right _ (List.mem_append_right _ (List.mem_append_right _ (List.mem_append_right _ (List.mem_append_right _ (List.mem_append_right _ (List.mem_append_right _ (List.mem_append_right _ (List.mem_append_right _ (List.mem_append_right _ (List.mem_append_left _ (List.mem_of_getElem? (i := 5) rfl))))))))))))))))))))))
theorem q846 : (.code y_Mo_leastOf prog_10_method_23_code 6 (some .int) : Cond) ∈ TB := List.mem_append_right _ (List.mem_append_right _ (List.mem_append_right _ (List.mem_append_right _ (List.mem_append_right _ (List.mem_append_right _ (List.mem_append_right _ (List.mem_append_right _ (List.mem_append_right _ (List.mem_append_right _ (List.mem_append_right _ (List.mem_append_right _ (List.mem_append_right _ (List.mem_append_right _ (List.mem_append_right _ (List.mem_append_right _ (List.mem_append_right _ (List.mem_append_right _ (List.mem_append_right _ (List.mem_append_right _ (List.mem_append_right _ (List.mem_append_left _ (List.mem_of_getElem? (i := 6) rfl))))))))))))))))))))))
theorem q847 : (.methodLink R_law 87 y_Mo_two : Cond) ∈ TB := List.mem_append_right _ (List.mem_append_right _ (List.mem_append_right _ (List.mem_append_right _ (List.mem_append_right _ (List.mem_append_right _ (List.mem_append_right _ (List.mem_append_right _ (List.mem_append_right _ (List.mem_append_right _ (List.mem_append_right _ (List.mem_append_right _ (List.mem_append_right _ (List.mem_append_right _ (List.mem_append_right _ (List.mem_append_right _ (List.mem_append_right _ (List.mem_append_right _ (List.mem_append_right _ (List.mem_append_right _ (List.mem_append_right _ (List.mem_append_left _ (List.mem_of_getElem? (i := 7) rfl))))))))))))))))))))))
theorem q848 : (.instanceMethod y_Mo_two : Cond) ∈ TB := List.mem_append_right _ (List.mem_append_right _ (List.mem_append_right _ (List.mem_append_right _ (List.mem_append_right _ (List.mem_append_right _ (List.mem_append_right _ (List.mem_append_right _ (List.mem_append_right _ (List.mem_append_right _ (List.mem_append_right _ (List.mem_append_right _ (List.mem_append_right _ (List.mem_append_right _ (List.mem_append_right _ (List.mem_append_right _ (List.mem_append_right _ (List.mem_append_right _ (List.mem_append_right _ (List.mem_append_right _ (List.mem_append_right _ (List.mem_append_left _ (List.mem_of_getElem? (i := 8) rfl))))))))))))))))))))))
theorem q849 : (.selects R_Mo y_Mo_two y_Mo_two : Cond) ∈ TB := List.mem_append_right _ (List.mem_append_right _ (List.mem_append_right _ (List.mem_append_right _ (List.mem_append_right _ (List.mem_append_right _ (List.mem_append_right _ (List.mem_append_right _ (List.mem_append_right _ (List.mem_append_right _ (List.mem_append_right _ (List.mem_append_right _ (List.mem_append_right _ (List.mem_append_right _ (List.mem_append_right _ (List.mem_append_right _ (List.mem_append_right _ (List.mem_append_right _ (List.mem_append_right _ (List.mem_append_right _ (List.mem_append_right _ (List.mem_append_left _ (List.mem_of_getElem? (i := 9) rfl))))))))))))))))))))))
theorem q850 : (.code y_Mo_two prog_10_method_47_code 3 (some .int) : Cond) ∈ TB := List.mem_append_right _ (List.mem_append_right _ (List.mem_append_right _ (List.mem_append_right _ (List.mem_append_right _ (List.mem_append_right _ (List.mem_append_right _ (List.mem_append_right _ (List.mem_append_right _ (List.mem_append_right _ (List.mem_append_right _ (List.mem_append_right _ (List.mem_append_right _ (List.mem_append_right _ (List.mem_append_right _ (List.mem_append_right _ (List.mem_append_right _ (List.mem_append_right _ (List.mem_append_right _ (List.mem_append_right _ (List.mem_append_right _ (List.mem_append_left _ (List.mem_of_getElem? (i := 10) rfl))))))))))))))))))))))
theorem q851 : (.methodLink R_Mo 167 y_Mo_bestTwo : Cond) ∈ TB := List.mem_append_right _ (List.mem_append_right _ (List.mem_append_right _ (List.mem_append_right _ (List.mem_append_right _ (List.mem_append_right _ (List.mem_append_right _ (List.mem_append_right _ (List.mem_append_right _ (List.mem_append_right _ (List.mem_append_right _ (List.mem_append_right _ (List.mem_append_right _ (List.mem_append_right _ (List.mem_append_right _ (List.mem_append_right _ (List.mem_append_right _ (List.mem_append_right _ (List.mem_append_right _ (List.mem_append_right _ (List.mem_append_right _ (List.mem_append_left _ (List.mem_of_getElem? (i := 11) rfl))))))))))))))))))))))
theorem q852 : (.instanceMethod y_Mo_bestTwo : Cond) ∈ TB := List.mem_append_right _ (List.mem_append_right _ (List.mem_append_right _ (List.mem_append_right _ (List.mem_append_right _ (List.mem_append_right _ (List.mem_append_right _ (List.mem_append_right _ (List.mem_append_right _ (List.mem_append_right _ (List.mem_append_right _ (List.mem_append_right _ (List.mem_append_right _ (List.mem_append_right _ (List.mem_append_right _ (List.mem_append_right _ (List.mem_append_right _ (List.mem_append_right _ (List.mem_append_right _ (List.mem_append_right _ (List.mem_append_right _ (List.mem_append_left _ (List.mem_of_getElem? (i := 12) rfl))))))))))))))))))))))
theorem q853 : (.code y_Mo_bestTwo prog_10_method_46_code 7 (some .int) : Cond) ∈ TB := List.mem_append_right _ (List.mem_append_right _ (List.mem_append_right _ (List.mem_append_right _ (List.mem_append_right _ (List.mem_append_right _ (List.mem_append_right _ (List.mem_append_right _ (List.mem_append_right _ (List.mem_append_right _ (List.mem_append_right _ (List.mem_append_right _ (List.mem_append_right _ (List.mem_append_right _ (List.mem_append_right _ (List.mem_append_right _ (List.mem_append_right _ (List.mem_append_right _ (List.mem_append_right _ (List.mem_append_right _ (List.mem_append_right _ (List.mem_append_left _ (List.mem_of_getElem? (i := 13) rfl))))))))))))))))))))))
theorem q854 : (.methodLink R_Mo 164 y_Mo_both : Cond) ∈ TB := List.mem_append_right _ (List.mem_append_right _ (List.mem_append_right _ (List.mem_append_right _ (List.mem_append_right _ (List.mem_append_right _ (List.mem_append_right _ (List.mem_append_right _ (List.mem_append_right _ (List.mem_append_right _ (List.mem_append_right _ (List.mem_append_right _ (List.mem_append_right _ (List.mem_append_right _ (List.mem_append_right _ (List.mem_append_right _ (List.mem_append_right _ (List.mem_append_right _ (List.mem_append_right _ (List.mem_append_right _ (List.mem_append_right _ (List.mem_append_left _ (List.mem_of_getElem? (i := 14) rfl))))))))))))))))))))))
theorem q855 : (.instanceMethod y_Mo_both : Cond) ∈ TB := List.mem_append_right _ (List.mem_append_right _ (List.mem_append_right _ (List.mem_append_right _ (List.mem_append_right _ (List.mem_append_right _ (List.mem_append_right _ (List.mem_append_right _ (List.mem_append_right _ (List.mem_append_right _ (List.mem_append_right _ (List.mem_append_right _ (List.mem_append_right _ (List.mem_append_right _ (List.mem_append_right _ (List.mem_append_right _ (List.mem_append_right _ (List.mem_append_right _ (List.mem_append_right _ (List.mem_append_right _ (List.mem_append_right _ (List.mem_append_left _ (List.mem_of_getElem? (i := 15) rfl))))))))))))))))))))))
theorem q856 : (.code y_Mo_both prog_10_method_45_code 7 (some .int) : Cond) ∈ TB := List.mem_append_right _ (List.mem_append_right _ (List.mem_append_right _ (List.mem_append_right _ (List.mem_append_right _ (List.mem_append_right _ (List.mem_append_right _ (List.mem_append_right _ (List.mem_append_right _ (List.mem_append_right _ (List.mem_append_right _ (List.mem_append_right _ (List.mem_append_right _ (List.mem_append_right _ (List.mem_append_right _ (List.mem_append_right _ (List.mem_append_right _ (List.mem_append_right _ (List.mem_append_right _ (List.mem_append_right _ (List.mem_append_right _ (List.mem_append_left _ (List.mem_of_getElem? (i := 16) rfl))))))))))))))))))))))
theorem q857 : (.methodLink R_law 91 y_Mo_houses : Cond) ∈ TB := List.mem_append_right _ (List.mem_append_right _ (List.mem_append_right _ (List.mem_append_right _ (List.mem_append_right _ (List.mem_append_right _ (List.mem_append_right _ (List.mem_append_right _ (List.mem_append_right _ (List.mem_append_right _ (List.mem_append_right _ (List.mem_append_right _ (List.mem_append_right _ (List.mem_append_right _ (List.mem_append_right _ (List.mem_append_right _ (List.mem_append_right _ (List.mem_append_right _ (List.mem_append_right _ (List.mem_append_right _ (List.mem_append_right _ (List.mem_append_left _ (List.mem_of_getElem? (i := 17) rfl))))))))))))))))))))))
theorem q858 : (.instanceMethod y_Mo_houses : Cond) ∈ TB := List.mem_append_right _ (List.mem_append_right _ (List.mem_append_right _ (List.mem_append_right _ (List.mem_append_right _ (List.mem_append_right _ (List.mem_append_right _ (List.mem_append_right _ (List.mem_append_right _ (List.mem_append_right _ (List.mem_append_right _ (List.mem_append_right _ (List.mem_append_right _ (List.mem_append_right _ (List.mem_append_right _ (List.mem_append_right _ (List.mem_append_right _ (List.mem_append_right _ (List.mem_append_right _ (List.mem_append_right _ (List.mem_append_right _ (List.mem_append_left _ (List.mem_of_getElem? (i := 18) rfl))))))))))))))))))))))
theorem q859 : (.selects R_Mo y_Mo_houses y_Mo_houses : Cond) ∈ TB := List.mem_append_right _ (List.mem_append_right _ (List.mem_append_right _ (List.mem_append_right _ (List.mem_append_right _ (List.mem_append_right _ (List.mem_append_right _ (List.mem_append_right _ (List.mem_append_right _ (List.mem_append_right _ (List.mem_append_right _ (List.mem_append_right _ (List.mem_append_right _ (List.mem_append_right _ (List.mem_append_right _ (List.mem_append_right _ (List.mem_append_right _ (List.mem_append_right _ (List.mem_append_right _ (List.mem_append_right _ (List.mem_append_right _ (List.mem_append_left _ (List.mem_of_getElem? (i := 19) rfl))))))))))))))))))))))
theorem q860 : (.code y_Mo_houses prog_10_method_48_code 3 (some .int) : Cond) ∈ TB := List.mem_append_right _ (List.mem_append_right _ (List.mem_append_right _ (List.mem_append_right _ (List.mem_append_right _ (List.mem_append_right _ (List.mem_append_right _ (List.mem_append_right _ (List.mem_append_right _ (List.mem_append_right _ (List.mem_append_right _ (List.mem_append_right _ (List.mem_append_right _ (List.mem_append_right _ (List.mem_append_right _ (List.mem_append_right _ (List.mem_append_right _ (List.mem_append_right _ (List.mem_append_right _ (List.mem_append_right _ (List.mem_append_right _ (List.mem_append_left _ (List.mem_of_getElem? (i := 20) rfl))))))))))))))))))))))
theorem q861 : (.constantLong R_Mo 170 (99) : Cond) ∈ TB := List.mem_append_right _ (List.mem_append_right _ (List.mem_append_right _ (List.mem_append_right _ (List.mem_append_right _ (List.mem_append_right _ (List.mem_append_right _ (List.mem_append_right _ (List.mem_append_right _ (List.mem_append_right _ (List.mem_append_right _ (List.mem_append_right _ (List.mem_append_right _ (List.mem_append_right _ (List.mem_append_right _ (List.mem_append_right _ (List.mem_append_right _ (List.mem_append_right _ (List.mem_append_right _ (List.mem_append_right _ (List.mem_append_right _ (List.mem_append_left _ (List.mem_of_getElem? (i := 21) rfl))))))))))))))))))))))
theorem q862 : (.methodLink R_Mo 172 y_Mo_most : Cond) ∈ TB := List.mem_append_right _ (List.mem_append_right _ (List.mem_append_right _ (List.mem_append_right _ (List.mem_append_right _ (List.mem_append_right _ (List.mem_append_right _ (List.mem_append_right _ (List.mem_append_right _ (List.mem_append_right _ (List.mem_append_right _ (List.mem_append_right _ (List.mem_append_right _ (List.mem_append_right _ (List.mem_append_right _ (List.mem_append_right _ (List.mem_append_right _ (List.mem_append_right _ (List.mem_append_right _ (List.mem_append_right _ (List.mem_append_right _ (List.mem_append_left _ (List.mem_of_getElem? (i := 22) rfl))))))))))))))))))))))
theorem q863 : (.methodLink R_law 95 y_Mo_waits : Cond) ∈ TB := List.mem_append_right _ (List.mem_append_right _ (List.mem_append_right _ (List.mem_append_right _ (List.mem_append_right _ (List.mem_append_right _ (List.mem_append_right _ (List.mem_append_right _ (List.mem_append_right _ (List.mem_append_right _ (List.mem_append_right _ (List.mem_append_right _ (List.mem_append_right _ (List.mem_append_right _ (List.mem_append_right _ (List.mem_append_right _ (List.mem_append_right _ (List.mem_append_right _ (List.mem_append_right _ (List.mem_append_right _ (List.mem_append_right _ (List.mem_append_left _ (List.mem_of_getElem? (i := 23) rfl))))))))))))))))))))))
theorem q864 : (.instanceMethod y_Mo_waits : Cond) ∈ TB := List.mem_append_right _ (List.mem_append_right _ (List.mem_append_right _ (List.mem_append_right _ (List.mem_append_right _ (List.mem_append_right _ (List.mem_append_right _ (List.mem_append_right _ (List.mem_append_right _ (List.mem_append_right _ (List.mem_append_right _ (List.mem_append_right _ (List.mem_append_right _ (List.mem_append_right _ (List.mem_append_right _ (List.mem_append_right _ (List.mem_append_right _ (List.mem_append_right _ (List.mem_append_right _ (List.mem_append_right _ (List.mem_append_right _ (List.mem_append_left _ (List.mem_of_getElem? (i := 24) rfl))))))))))))))))))))))
theorem q865 : (.selects R_Mo y_Mo_waits y_Mo_waits : Cond) ∈ TB := List.mem_append_right _ (List.mem_append_right _ (List.mem_append_right _ (List.mem_append_right _ (List.mem_append_right _ (List.mem_append_right _ (List.mem_append_right _ (List.mem_append_right _ (List.mem_append_right _ (List.mem_append_right _ (List.mem_append_right _ (List.mem_append_right _ (List.mem_append_right _ (List.mem_append_right _ (List.mem_append_right _ (List.mem_append_right _ (List.mem_append_right _ (List.mem_append_right _ (List.mem_append_right _ (List.mem_append_right _ (List.mem_append_right _ (List.mem_append_left _ (List.mem_of_getElem? (i := 25) rfl))))))))))))))))))))))
theorem q866 : (.code y_Mo_waits prog_10_method_49_code 7 (some .int) : Cond) ∈ TB := List.mem_append_right _ (List.mem_append_right _ (List.mem_append_right _ (List.mem_append_right _ (List.mem_append_right _ (List.mem_append_right _ (List.mem_append_right _ (List.mem_append_right _ (List.mem_append_right _ (List.mem_append_right _ (List.mem_append_right _ (List.mem_append_right _ (List.mem_append_right _ (List.mem_append_right _ (List.mem_append_right _ (List.mem_append_right _ (List.mem_append_right _ (List.mem_append_right _ (List.mem_append_right _ (List.mem_append_right _ (List.mem_append_right _ (List.mem_append_left _ (List.mem_of_getElem? (i := 26) rfl))))))))))))))))))))))
theorem q867 : (.methodLink R_law 100 y_Mo_heard : Cond) ∈ TB := List.mem_append_right _ (List.mem_append_right _ (List.mem_append_right _ (List.mem_append_right _ (List.mem_append_right _ (List.mem_append_right _ (List.mem_append_right _ (List.mem_append_right _ (List.mem_append_right _ (List.mem_append_right _ (List.mem_append_right _ (List.mem_append_right _ (List.mem_append_right _ (List.mem_append_right _ (List.mem_append_right _ (List.mem_append_right _ (List.mem_append_right _ (List.mem_append_right _ (List.mem_append_right _ (List.mem_append_right _ (List.mem_append_right _ (List.mem_append_left _ (List.mem_of_getElem? (i := 27) rfl))))))))))))))))))))))
theorem q868 : (.instanceMethod y_Mo_heard : Cond) ∈ TB := List.mem_append_right _ (List.mem_append_right _ (List.mem_append_right _ (List.mem_append_right _ (List.mem_append_right _ (List.mem_append_right _ (List.mem_append_right _ (List.mem_append_right _ (List.mem_append_right _ (List.mem_append_right _ (List.mem_append_right _ (List.mem_append_right _ (List.mem_append_right _ (List.mem_append_right _ (List.mem_append_right _ (List.mem_append_right _ (List.mem_append_right _ (List.mem_append_right _ (List.mem_append_right _ (List.mem_append_right _ (List.mem_append_right _ (List.mem_append_left _ (List.mem_of_getElem? (i := 28) rfl))))))))))))))))))))))
theorem q869 : (.selects R_Mo y_Mo_heard y_Mo_heard : Cond) ∈ TB := List.mem_append_right _ (List.mem_append_right _ (List.mem_append_right _ (List.mem_append_right _ (List.mem_append_right _ (List.mem_append_right _ (List.mem_append_right _ (List.mem_append_right _ (List.mem_append_right _ (List.mem_append_right _ (List.mem_append_right _ (List.mem_append_right _ (List.mem_append_right _ (List.mem_append_right _ (List.mem_append_right _ (List.mem_append_right _ (List.mem_append_right _ (List.mem_append_right _ (List.mem_append_right _ (List.mem_append_right _ (List.mem_append_right _ (List.mem_append_left _ (List.mem_of_getElem? (i := 29) rfl))))))))))))))))))))))
theorem q870 : (.code y_Mo_heard prog_10_method_50_code 4 (some .int) : Cond) ∈ TB := List.mem_append_right _ (List.mem_append_right _ (List.mem_append_right _ (List.mem_append_right _ (List.mem_append_right _ (List.mem_append_right _ (List.mem_append_right _ (List.mem_append_right _ (List.mem_append_right _ (List.mem_append_right _ (List.mem_append_right _ (List.mem_append_right _ (List.mem_append_right _ (List.mem_append_right _ (List.mem_append_right _ (List.mem_append_right _ (List.mem_append_right _ (List.mem_append_right _ (List.mem_append_right _ (List.mem_append_right _ (List.mem_append_right _ (List.mem_append_left _ (List.mem_of_getElem? (i := 30) rfl))))))))))))))))))))))
theorem q871 : (.methodLink R_law 104 y_Mo_forget : Cond) ∈ TB := List.mem_append_right _ (List.mem_append_right _ (List.mem_append_right _ (List.mem_append_right _ (List.mem_append_right _ (List.mem_append_right _ (List.mem_append_right _ (List.mem_append_right _ (List.mem_append_right _ (List.mem_append_right _ (List.mem_append_right _ (List.mem_append_right _ (List.mem_append_right _ (List.mem_append_right _ (List.mem_append_right _ (List.mem_append_right _ (List.mem_append_right _ (List.mem_append_right _ (List.mem_append_right _ (List.mem_append_right _ (List.mem_append_right _ (List.mem_append_left _ (List.mem_of_getElem? (i := 31) rfl))))))))))))))))))))))
theorem q872 : (.instanceMethod y_Mo_forget : Cond) ∈ TB := List.mem_append_right _ (List.mem_append_right _ (List.mem_append_right _ (List.mem_append_right _ (List.mem_append_right _ (List.mem_append_right _ (List.mem_append_right _ (List.mem_append_right _ (List.mem_append_right _ (List.mem_append_right _ (List.mem_append_right _ (List.mem_append_right _ (List.mem_append_right _ (List.mem_append_right _ (List.mem_append_right _ (List.mem_append_right _ (List.mem_append_right _ (List.mem_append_right _ (List.mem_append_right _ (List.mem_append_right _ (List.mem_append_right _ (List.mem_append_left _ (List.mem_of_getElem? (i := 32) rfl))))))))))))))))))))))
theorem q873 : (.selects R_Mo y_Mo_forget y_Mo_forget : Cond) ∈ TB := List.mem_append_right _ (List.mem_append_right _ (List.mem_append_right _ (List.mem_append_right _ (List.mem_append_right _ (List.mem_append_right _ (List.mem_append_right _ (List.mem_append_right _ (List.mem_append_right _ (List.mem_append_right _ (List.mem_append_right _ (List.mem_append_right _ (List.mem_append_right _ (List.mem_append_right _ (List.mem_append_right _ (List.mem_append_right _ (List.mem_append_right _ (List.mem_append_right _ (List.mem_append_right _ (List.mem_append_right _ (List.mem_append_right _ (List.mem_append_left _ (List.mem_of_getElem? (i := 33) rfl))))))))))))))))))))))
theorem q874 : (.code y_Mo_forget prog_10_method_51_code 2 (some .int) : Cond) ∈ TB := List.mem_append_right _ (List.mem_append_right _ (List.mem_append_right _ (List.mem_append_right _ (List.mem_append_right _ (List.mem_append_right _ (List.mem_append_right _ (List.mem_append_right _ (List.mem_append_right _ (List.mem_append_right _ (List.mem_append_right _ (List.mem_append_right _ (List.mem_append_right _ (List.mem_append_right _ (List.mem_append_right _ (List.mem_append_right _ (List.mem_append_right _ (List.mem_append_right _ (List.mem_append_right _ (List.mem_append_right _ (List.mem_append_right _ (List.mem_append_left _ (List.mem_of_getElem? (i := 34) rfl))))))))))))))))))))))
theorem q875 : (.methodLink R_law 108 y_Mo_may : Cond) ∈ TB := List.mem_append_right _ (List.mem_append_right _ (List.mem_append_right _ (List.mem_append_right _ (List.mem_append_right _ (List.mem_append_right _ (List.mem_append_right _ (List.mem_append_right _ (List.mem_append_right _ (List.mem_append_right _ (List.mem_append_right _ (List.mem_append_right _ (List.mem_append_right _ (List.mem_append_right _ (List.mem_append_right _ (List.mem_append_right _ (List.mem_append_right _ (List.mem_append_right _ (List.mem_append_right _ (List.mem_append_right _ (List.mem_append_right _ (List.mem_append_left _ (List.mem_of_getElem? (i := 35) rfl))))))))))))))))))))))
theorem q876 : (.instanceMethod y_Mo_may : Cond) ∈ TB := List.mem_append_right _ (List.mem_append_right _ (List.mem_append_right _ (List.mem_append_right _ (List.mem_append_right _ (List.mem_append_right _ (List.mem_append_right _ (List.mem_append_right _ (List.mem_append_right _ (List.mem_append_right _ (List.mem_append_right _ (List.mem_append_right _ (List.mem_append_right _ (List.mem_append_right _ (List.mem_append_right _ (List.mem_append_right _ (List.mem_append_right _ (List.mem_append_right _ (List.mem_append_right _ (List.mem_append_right _ (List.mem_append_right _ (List.mem_append_left _ (List.mem_of_getElem? (i := 36) rfl))))))))))))))))))))))
theorem q877 : (.selects R_Mo y_Mo_may y_Mo_may : Cond) ∈ TB := List.mem_append_right _ (List.mem_append_right _ (List.mem_append_right _ (List.mem_append_right _ (List.mem_append_right _ (List.mem_append_right _ (List.mem_append_right _ (List.mem_append_right _ (List.mem_append_right _ (List.mem_append_right _ (List.mem_append_right _ (List.mem_append_right _ (List.mem_append_right _ (List.mem_append_right _ (List.mem_append_right _ (List.mem_append_right _ (List.mem_append_right _ (List.mem_append_right _ (List.mem_append_right _ (List.mem_append_right _ (List.mem_append_right _ (List.mem_append_left _ (List.mem_of_getElem? (i := 37) rfl))))))))))))))))))))))
theorem q878 : (.code y_Mo_may prog_10_method_52_code 7 (some .int) : Cond) ∈ TB := List.mem_append_right _ (List.mem_append_right _ (List.mem_append_right _ (List.mem_append_right _ (List.mem_append_right _ (List.mem_append_right _ (List.mem_append_right _ (List.mem_append_right _ (List.mem_append_right _ (List.mem_append_right _ (List.mem_append_right _ (List.mem_append_right _ (List.mem_append_right _ (List.mem_append_right _ (List.mem_append_right _ (List.mem_append_right _ (List.mem_append_right _ (List.mem_append_right _ (List.mem_append_right _ (List.mem_append_right _ (List.mem_append_right _ (List.mem_append_left _ (List.mem_of_getElem? (i := 38) rfl))))))))))))))))))))))
theorem q879 : (.methodLink R_law 112 y_Mo_suits : Cond) ∈ TB := List.mem_append_right _ (List.mem_append_right _ (List.mem_append_right _ (List.mem_append_right _ (List.mem_append_right _ (List.mem_append_right _ (List.mem_append_right _ (List.mem_append_right _ (List.mem_append_right _ (List.mem_append_right _ (List.mem_append_right _ (List.mem_append_right _ (List.mem_append_right _ (List.mem_append_right _ (List.mem_append_right _ (List.mem_append_right _ (List.mem_append_right _ (List.mem_append_right _ (List.mem_append_right _ (List.mem_append_right _ (List.mem_append_right _ (List.mem_append_left _ (List.mem_of_getElem? (i := 39) rfl))))))))))))))))))))))
theorem q880 : (.instanceMethod y_Mo_suits : Cond) ∈ TB := List.mem_append_right _ (List.mem_append_right _ (List.mem_append_right _ (List.mem_append_right _ (List.mem_append_right _ (List.mem_append_right _ (List.mem_append_right _ (List.mem_append_right _ (List.mem_append_right _ (List.mem_append_right _ (List.mem_append_right _ (List.mem_append_right _ (List.mem_append_right _ (List.mem_append_right _ (List.mem_append_right _ (List.mem_append_right _ (List.mem_append_right _ (List.mem_append_right _ (List.mem_append_right _ (List.mem_append_right _ (List.mem_append_right _ (List.mem_append_right _ (List.mem_of_getElem? (i := 0) rfl))))))))))))))))))))))
theorem q881 : (.selects R_Mo y_Mo_suits y_Mo_suits : Cond) ∈ TB := List.mem_append_right _ (List.mem_append_right _ (List.mem_append_right _ (List.mem_append_right _ (List.mem_append_right _ (List.mem_append_right _ (List.mem_append_right _ (List.mem_append_right _ (List.mem_append_right _ (List.mem_append_right _ (List.mem_append_right _ (List.mem_append_right _ (List.mem_append_right _ (List.mem_append_right _ (List.mem_append_right _ (List.mem_append_right _ (List.mem_append_right _ (List.mem_append_right _ (List.mem_append_right _ (List.mem_append_right _ (List.mem_append_right _ (List.mem_append_right _ (List.mem_of_getElem? (i := 1) rfl))))))))))))))))))))))
theorem q882 : (.code y_Mo_suits prog_10_method_53_code 5 (some .int) : Cond) ∈ TB := List.mem_append_right _ (List.mem_append_right _ (List.mem_append_right _ (List.mem_append_right _ (List.mem_append_right _ (List.mem_append_right _ (List.mem_append_right _ (List.mem_append_right _ (List.mem_append_right _ (List.mem_append_right _ (List.mem_append_right _ (List.mem_append_right _ (List.mem_append_right _ (List.mem_append_right _ (List.mem_append_right _ (List.mem_append_right _ (List.mem_append_right _ (List.mem_append_right _ (List.mem_append_right _ (List.mem_append_right _ (List.mem_append_right _ (List.mem_append_right _ (List.mem_of_getElem? (i := 2) rfl))))))))))))))))))))))
theorem q883 : (.methodLink R_law 116 y_Mo_against : Cond) ∈ TB := List.mem_append_right _ (List.mem_append_right _ (List.mem_append_right _ (List.mem_append_right _ (List.mem_append_right _ (List.mem_append_right _ (List.mem_append_right _ (List.mem_append_right _ (List.mem_append_right _ (List.mem_append_right _ (List.mem_append_right _ (List.mem_append_right _ (List.mem_append_right _ (List.mem_append_right _ (List.mem_append_right _ (List.mem_append_right _ (List.mem_append_right _ (List.mem_append_right _ (List.mem_append_right _ (List.mem_append_right _ (List.mem_append_right _ (List.mem_append_right _ (List.mem_of_getElem? (i := 3) rfl))))))))))))))))))))))
theorem q884 : (.instanceMethod y_Mo_against : Cond) ∈ TB := List.mem_append_right _ (List.mem_append_right _ (List.mem_append_right _ (List.mem_append_right _ (List.mem_append_right _ (List.mem_append_right _ (List.mem_append_right _ (List.mem_append_right _ (List.mem_append_right _ (List.mem_append_right _ (List.mem_append_right _ (List.mem_append_right _ (List.mem_append_right _ (List.mem_append_right _ (List.mem_append_right _ (List.mem_append_right _ (List.mem_append_right _ (List.mem_append_right _ (List.mem_append_right _ (List.mem_append_right _ (List.mem_append_right _ (List.mem_append_right _ (List.mem_of_getElem? (i := 4) rfl))))))))))))))))))))))
theorem q885 : (.selects R_Mo y_Mo_against y_Mo_against : Cond) ∈ TB := List.mem_append_right _ (List.mem_append_right _ (List.mem_append_right _ (List.mem_append_right _ (List.mem_append_right _ (List.mem_append_right _ (List.mem_append_right _ (List.mem_append_right _ (List.mem_append_right _ (List.mem_append_right _ (List.mem_append_right _ (List.mem_append_right _ (List.mem_append_right _ (List.mem_append_right _ (List.mem_append_right _ (List.mem_append_right _ (List.mem_append_right _ (List.mem_append_right _ (List.mem_append_right _ (List.mem_append_right _ (List.mem_append_right _ (List.mem_append_right _ (List.mem_of_getElem? (i := 5) rfl))))))))))))))))))))))
theorem q886 : (.code y_Mo_against prog_10_method_54_code 4 (some .int) : Cond) ∈ TB := List.mem_append_right _ (List.mem_append_right _ (List.mem_append_right _ (List.mem_append_right _ (List.mem_append_right _ (List.mem_append_right _ (List.mem_append_right _ (List.mem_append_right _ (List.mem_append_right _ (List.mem_append_right _ (List.mem_append_right _ (List.mem_append_right _ (List.mem_append_right _ (List.mem_append_right _ (List.mem_append_right _ (List.mem_append_right _ (List.mem_append_right _ (List.mem_append_right _ (List.mem_append_right _ (List.mem_append_right _ (List.mem_append_right _ (List.mem_append_right _ (List.mem_of_getElem? (i := 6) rfl))))))))))))))))))))))
theorem q887 : (.methodLink R_law 120 y_Mo_ask : Cond) ∈ TB := List.mem_append_right _ (List.mem_append_right _ (List.mem_append_right _ (List.mem_append_right _ (List.mem_append_right _ (List.mem_append_right _ (List.mem_append_right _ (List.mem_append_right _ (List.mem_append_right _ (List.mem_append_right _ (List.mem_append_right _ (List.mem_append_right _ (List.mem_append_right _ (List.mem_append_right _ (List.mem_append_right _ (List.mem_append_right _ (List.mem_append_right _ (List.mem_append_right _ (List.mem_append_right _ (List.mem_append_right _ (List.mem_append_right _ (List.mem_append_right _ (List.mem_of_getElem? (i := 7) rfl))))))))))))))))))))))
theorem q888 : (.instanceMethod y_Mo_ask : Cond) ∈ TB := List.mem_append_right _ (List.mem_append_right _ (List.mem_append_right _ (List.mem_append_right _ (List.mem_append_right _ (List.mem_append_right _ (List.mem_append_right _ (List.mem_append_right _ (List.mem_append_right _ (List.mem_append_right _ (List.mem_append_right _ (List.mem_append_right _ (List.mem_append_right _ (List.mem_append_right _ (List.mem_append_right _ (List.mem_append_right _ (List.mem_append_right _ (List.mem_append_right _ (List.mem_append_right _ (List.mem_append_right _ (List.mem_append_right _ (List.mem_append_right _ (List.mem_of_getElem? (i := 8) rfl))))))))))))))))))))))
theorem q889 : (.selects R_Mo y_Mo_ask y_Mo_ask : Cond) ∈ TB := List.mem_append_right _ (List.mem_append_right _ (List.mem_append_right _ (List.mem_append_right _ (List.mem_append_right _ (List.mem_append_right _ (List.mem_append_right _ (List.mem_append_right _ (List.mem_append_right _ (List.mem_append_right _ (List.mem_append_right _ (List.mem_append_right _ (List.mem_append_right _ (List.mem_append_right _ (List.mem_append_right _ (List.mem_append_right _ (List.mem_append_right _ (List.mem_append_right _ (List.mem_append_right _ (List.mem_append_right _ (List.mem_append_right _ (List.mem_append_right _ (List.mem_of_getElem? (i := 9) rfl))))))))))))))))))))))
theorem q890 : (.code y_Mo_ask prog_10_method_55_code 4 (some .int) : Cond) ∈ TB := List.mem_append_right _ (List.mem_append_right _ (List.mem_append_right _ (List.mem_append_right _ (List.mem_append_right _ (List.mem_append_right _ (List.mem_append_right _ (List.mem_append_right _ (List.mem_append_right _ (List.mem_append_right _ (List.mem_append_right _ (List.mem_append_right _ (List.mem_append_right _ (List.mem_append_right _ (List.mem_append_right _ (List.mem_append_right _ (List.mem_append_right _ (List.mem_append_right _ (List.mem_append_right _ (List.mem_append_right _ (List.mem_append_right _ (List.mem_append_right _ (List.mem_of_getElem? (i := 10) rfl))))))))))))))))))))))
theorem q891 : (.methodLink R_law 124 y_Mo_wheel : Cond) ∈ TB := List.mem_append_right _ (List.mem_append_right _ (List.mem_append_right _ (List.mem_append_right _ (List.mem_append_right _ (List.mem_append_right _ (List.mem_append_right _ (List.mem_append_right _ (List.mem_append_right _ (List.mem_append_right _ (List.mem_append_right _ (List.mem_append_right _ (List.mem_append_right _ (List.mem_append_right _ (List.mem_append_right _ (List.mem_append_right _ (List.mem_append_right _ (List.mem_append_right _ (List.mem_append_right _ (List.mem_append_right _ (List.mem_append_right _ (List.mem_append_right _ (List.mem_of_getElem? (i := 11) rfl))))))))))))))))))))))
theorem q892 : (.instanceMethod y_Mo_wheel : Cond) ∈ TB := List.mem_append_right _ (List.mem_append_right _ (List.mem_append_right _ (List.mem_append_right _ (List.mem_append_right _ (List.mem_append_right _ (List.mem_append_right _ (List.mem_append_right _ (List.mem_append_right _ (List.mem_append_right _ (List.mem_append_right _ (List.mem_append_right _ (List.mem_append_right _ (List.mem_append_right _ (List.mem_append_right _ (List.mem_append_right _ (List.mem_append_right _ (List.mem_append_right _ (List.mem_append_right _ (List.mem_append_right _ (List.mem_append_right _ (List.mem_append_right _ (List.mem_of_getElem? (i := 12) rfl))))))))))))))))))))))
theorem q893 : (.selects R_Mo y_Mo_wheel y_Mo_wheel : Cond) ∈ TB := List.mem_append_right _ (List.mem_append_right _ (List.mem_append_right _ (List.mem_append_right _ (List.mem_append_right _ (List.mem_append_right _ (List.mem_append_right _ (List.mem_append_right _ (List.mem_append_right _ (List.mem_append_right _ (List.mem_append_right _ (List.mem_append_right _ (List.mem_append_right _ (List.mem_append_right _ (List.mem_append_right _ (List.mem_append_right _ (List.mem_append_right _ (List.mem_append_right _ (List.mem_append_right _ (List.mem_append_right _ (List.mem_append_right _ (List.mem_append_right _ (List.mem_of_getElem? (i := 13) rfl))))))))))))))))))))))
theorem q894 : (.code y_Mo_wheel prog_10_method_56_code 10 (some .int) : Cond) ∈ TB := List.mem_append_right _ (List.mem_append_right _ (List.mem_append_right _ (List.mem_append_right _ (List.mem_append_right _ (List.mem_append_right _ (List.mem_append_right _ (List.mem_append_right _ (List.mem_append_right _ (List.mem_append_right _ (List.mem_append_right _ (List.mem_append_right _ (List.mem_append_right _ (List.mem_append_right _ (List.mem_append_right _ (List.mem_append_right _ (List.mem_append_right _ (List.mem_append_right _ (List.mem_append_right _ (List.mem_append_right _ (List.mem_append_right _ (List.mem_append_right _ (List.mem_of_getElem? (i := 14) rfl))))))))))))))))))))))
theorem q895 : (.constantLong R_Mo 175 (6) : Cond) ∈ TB := List.mem_append_right _ (List.mem_append_right _ (List.mem_append_right _ (List.mem_append_right _ (List.mem_append_right _ (List.mem_append_right _ (List.mem_append_right _ (List.mem_append_right _ (List.mem_append_right _ (List.mem_append_right _ (List.mem_append_right _ (List.mem_append_right _ (List.mem_append_right _ (List.mem_append_right _ (List.mem_append_right _ (List.mem_append_right _ (List.mem_append_right _ (List.mem_append_right _ (List.mem_append_right _ (List.mem_append_right _ (List.mem_append_right _ (List.mem_append_right _ (List.mem_of_getElem? (i := 15) rfl))))))))))))))))))))))
theorem q896 : (.methodLink R_law 128 y_Mo_evening : Cond) ∈ TB := List.mem_append_right _ (List.mem_append_right _ (List.mem_append_right _ (List.mem_append_right _ (List.mem_append_right _ (List.mem_append_right _ (List.mem_append_right _ (List.mem_append_right _ (List.mem_append_right _ (List.mem_append_right _ (List.mem_append_right _ (List.mem_append_right _ (List.mem_append_right _ (List.mem_append_right _ (List.mem_append_right _ (List.mem_append_right _ (List.mem_append_right _ (List.mem_append_right _ (List.mem_append_right _ (List.mem_append_right _ (List.mem_append_right _ (List.mem_append_right _ (List.mem_of_getElem? (i := 16) rfl))))))))))))))))))))))
theorem q897 : (.instanceMethod y_Mo_evening : Cond) ∈ TB := List.mem_append_right _ (List.mem_append_right _ (List.mem_append_right _ (List.mem_append_right _ (List.mem_append_right _ (List.mem_append_right _ (List.mem_append_right _ (List.mem_append_right _ (List.mem_append_right _ (List.mem_append_right _ (List.mem_append_right _ (List.mem_append_right _ (List.mem_append_right _ (List.mem_append_right _ (List.mem_append_right _ (List.mem_append_right _ (List.mem_append_right _ (List.mem_append_right _ (List.mem_append_right _ (List.mem_append_right _ (List.mem_append_right _ (List.mem_append_right _ (List.mem_of_getElem? (i := 17) rfl))))))))))))))))))))))
theorem q898 : (.selects R_Mo y_Mo_evening y_Mo_evening : Cond) ∈ TB := List.mem_append_right _ (List.mem_append_right _ (List.mem_append_right _ (List.mem_append_right _ (List.mem_append_right _ (List.mem_append_right _ (List.mem_append_right _ (List.mem_append_right _ (List.mem_append_right _ (List.mem_append_right _ (List.mem_append_right _ (List.mem_append_right _ (List.mem_append_right _ (List.mem_append_right _ (List.mem_append_right _ (List.mem_append_right _ (List.mem_append_right _ (List.mem_append_right _ (List.mem_append_right _ (List.mem_append_right _ (List.mem_append_right _ (List.mem_append_right _ (List.mem_of_getElem? (i := 18) rfl))))))))))))))))))))))
theorem q899 : (.code y_Mo_evening prog_10_method_57_code 11 (some .int) : Cond) ∈ TB := List.mem_append_right _ (List.mem_append_right _ (List.mem_append_right _ (List.mem_append_right _ (List.mem_append_right _ (List.mem_append_right _ (List.mem_append_right _ (List.mem_append_right _ (List.mem_append_right _ (List.mem_append_right _ (List.mem_append_right _ (List.mem_append_right _ (List.mem_append_right _ (List.mem_append_right _ (List.mem_append_right _ (List.mem_append_right _ (List.mem_append_right _ (List.mem_append_right _ (List.mem_append_right _ (List.mem_append_right _ (List.mem_append_right _ (List.mem_append_right _ (List.mem_of_getElem? (i := 19) rfl))))))))))))))))))))))
theorem q900 : (.constantLong R_Mo 177 (9999) : Cond) ∈ TB := List.mem_append_right _ (List.mem_append_right _ (List.mem_append_right _ (List.mem_append_right _ (List.mem_append_right _ (List.mem_append_right _ (List.mem_append_right _ (List.mem_append_right _ (List.mem_append_right _ (List.mem_append_right _ (List.mem_append_right _ (List.mem_append_right _ (List.mem_append_right _ (List.mem_append_right _ (List.mem_append_right _ (List.mem_append_right _ (List.mem_append_right _ (List.mem_append_right _ (List.mem_append_right _ (List.mem_append_right _ (List.mem_append_right _ (List.mem_append_right _ (List.mem_of_getElem? (i := 20) rfl))))))))))))))))))))))
theorem q901 : (.constantLong R_Mo 179 (20) : Cond) ∈ TB := List.mem_append_right _ (List.mem_append_right _ (List.mem_append_right _ (List.mem_append_right _ (List.mem_append_right _ (List.mem_append_right _ (List.mem_append_right _ (List.mem_append_right _ (List.mem_append_right _ (List.mem_append_right _ (List.mem_append_right _ (List.mem_append_right _ (List.mem_append_right _ (List.mem_append_right _ (List.mem_append_right _ (List.mem_append_right _ (List.mem_append_right _ (List.mem_append_right _ (List.mem_append_right _ (List.mem_append_right _ (List.mem_append_right _ (List.mem_append_right _ (List.mem_of_getElem? (i := 21) rfl))))))))))))))))))))))
theorem q902 : (.constantLong R_Mo 181 (7919) : Cond) ∈ TB := List.mem_append_right _ (List.mem_append_right _ (List.mem_append_right _ (List.mem_append_right _ (List.mem_append_right _ (List.mem_append_right _ (List.mem_append_right _ (List.mem_append_right _ (List.mem_append_right _ (List.mem_append_right _ (List.mem_append_right _ (List.mem_append_right _ (List.mem_append_right _ (List.mem_append_right _ (List.mem_append_right _ (List.mem_append_right _ (List.mem_append_right _ (List.mem_append_right _ (List.mem_append_right _ (List.mem_append_right _ (List.mem_append_right _ (List.mem_append_right _ (List.mem_of_getElem? (i := 22) rfl))))))))))))))))))))))
theorem q903 : (.constantLong R_Mo 183 (6151) : Cond) ∈ TB := List.mem_append_right _ (List.mem_append_right _ (List.mem_append_right _ (List.mem_append_right _ (List.mem_append_right _ (List.mem_append_right _ (List.mem_append_right _ (List.mem_append_right _ (List.mem_append_right _ (List.mem_append_right _ (List.mem_append_right _ (List.mem_append_right _ (List.mem_append_right _ (List.mem_append_right _ (List.mem_append_right _ (List.mem_append_right _ (List.mem_append_right _ (List.mem_append_right _ (List.mem_append_right _ (List.mem_append_right _ (List.mem_append_right _ (List.mem_append_right _ (List.mem_of_getElem? (i := 23) rfl))))))))))))))))))))))
theorem q904 : (.constantLong R_Mo 185 (65521) : Cond) ∈ TB := List.mem_append_right _ (List.mem_append_right _ (List.mem_append_right _ (List.mem_append_right _ (List.mem_append_right _ (List.mem_append_right _ (List.mem_append_right _ (List.mem_append_right _ (List.mem_append_right _ (List.mem_append_right _ (List.mem_append_right _ (List.mem_append_right _ (List.mem_append_right _ (List.mem_append_right _ (List.mem_append_right _ (List.mem_append_right _ (List.mem_append_right _ (List.mem_append_right _ (List.mem_append_right _ (List.mem_append_right _ (List.mem_append_right _ (List.mem_append_right _ (List.mem_of_getElem? (i := 24) rfl))))))))))))))))))))))
theorem q905 : (.methodLink R_law 132 y_Mo_keep : Cond) ∈ TB := List.mem_append_right _ (List.mem_append_right _ (List.mem_append_right _ (List.mem_append_right _ (List.mem_append_right _ (List.mem_append_right _ (List.mem_append_right _ (List.mem_append_right _ (List.mem_append_right _ (List.mem_append_right _ (List.mem_append_right _ (List.mem_append_right _ (List.mem_append_right _ (List.mem_append_right _ (List.mem_append_right _ (List.mem_append_right _ (List.mem_append_right _ (List.mem_append_right _ (List.mem_append_right _ (List.mem_append_right _ (List.mem_append_right _ (List.mem_append_right _ (List.mem_of_getElem? (i := 25) rfl))))))))))))))))))))))
theorem q906 : (.instanceMethod y_Mo_keep : Cond) ∈ TB := List.mem_append_right _ (List.mem_append_right _ (List.mem_append_right _ (List.mem_append_right _ (List.mem_append_right _ (List.mem_append_right _ (List.mem_append_right _ (List.mem_append_right _ (List.mem_append_right _ (List.mem_append_right _ (List.mem_append_right _ (List.mem_append_right _ (List.mem_append_right _ (List.mem_append_right _ (List.mem_append_right _ (List.mem_append_right _ (List.mem_append_right _ (List.mem_append_right _ (List.mem_append_right _ (List.mem_append_right _ (List.mem_append_right _ (List.mem_append_right _ (List.mem_of_getElem? (i := 26) rfl))))))))))))))))))))))
theorem q907 : (.selects R_Mo y_Mo_keep y_Mo_keep : Cond) ∈ TB := List.mem_append_right _ (List.mem_append_right _ (List.mem_append_right _ (List.mem_append_right _ (List.mem_append_right _ (List.mem_append_right _ (List.mem_append_right _ (List.mem_append_right _ (List.mem_append_right _ (List.mem_append_right _ (List.mem_append_right _ (List.mem_append_right _ (List.mem_append_right _ (List.mem_append_right _ (List.mem_append_right _ (List.mem_append_right _ (List.mem_append_right _ (List.mem_append_right _ (List.mem_append_right _ (List.mem_append_right _ (List.mem_append_right _ (List.mem_append_right _ (List.mem_of_getElem? (i := 27) rfl))))))))))))))))))))))
theorem q908 : (.code y_Mo_keep prog_10_method_58_code 2 (some .int) : Cond) ∈ TB := List.mem_append_right _ (List.mem_append_right _ (List.mem_append_right _ (List.mem_append_right _ (List.mem_append_right _ (List.mem_append_right _ (List.mem_append_right _ (List.mem_append_right _ (List.mem_append_right _ (List.mem_append_right _ (List.mem_append_right _ (List.mem_append_right _ (List.mem_append_right _ (List.mem_append_right _ (List.mem_append_right _ (List.mem_append_right _ (List.mem_append_right _ (List.mem_append_right _ (List.mem_append_right _ (List.mem_append_right _ (List.mem_append_right _ (List.mem_append_right _ (List.mem_of_getElem? (i := 28) rfl))))))))))))))))))))))
theorem q909 : (.methodLink R_law 136 y_Mo_back : Cond) ∈ TB := List.mem_append_right _ (List.mem_append_right _ (List.mem_append_right _ (List.mem_append_right _ (List.mem_append_right _ (List.mem_append_right _ (List.mem_append_right _ (List.mem_append_right _ (List.mem_append_right _ (List.mem_append_right _ (List.mem_append_right _ (List.mem_append_right _ (List.mem_append_right _ (List.mem_append_right _ (List.mem_append_right _ (List.mem_append_right _ (List.mem_append_right _ (List.mem_append_right _ (List.mem_append_right _ (List.mem_append_right _ (List.mem_append_right _ (List.mem_append_right _ (List.mem_of_getElem? (i := 29) rfl))))))))))))))))))))))
theorem q910 : (.instanceMethod y_Mo_back : Cond) ∈ TB := List.mem_append_right _ (List.mem_append_right _ (List.mem_append_right _ (List.mem_append_right _ (List.mem_append_right _ (List.mem_append_right _ (List.mem_append_right _ (List.mem_append_right _ (List.mem_append_right _ (List.mem_append_right _ (List.mem_append_right _ (List.mem_append_right _ (List.mem_append_right _ (List.mem_append_right _ (List.mem_append_right _ (List.mem_append_right _ (List.mem_append_right _ (List.mem_append_right _ (List.mem_append_right _ (List.mem_append_right _ (List.mem_append_right _ (List.mem_append_right _ (List.mem_of_getElem? (i := 30) rfl))))))))))))))))))))))
theorem q911 : (.selects R_Mo y_Mo_back y_Mo_back : Cond) ∈ TB := List.mem_append_right _ (List.mem_append_right _ (List.mem_append_right _ (List.mem_append_right _ (List.mem_append_right _ (List.mem_append_right _ (List.mem_append_right _ (List.mem_append_right _ (List.mem_append_right _ (List.mem_append_right _ (List.mem_append_right _ (List.mem_append_right _ (List.mem_append_right _ (List.mem_append_right _ (List.mem_append_right _ (List.mem_append_right _ (List.mem_append_right _ (List.mem_append_right _ (List.mem_append_right _ (List.mem_append_right _ (List.mem_append_right _ (List.mem_append_right _ (List.mem_of_getElem? (i := 31) rfl))))))))))))))))))))))
theorem q912 : (.code y_Mo_back prog_10_method_59_code 2 (some .int) : Cond) ∈ TB := List.mem_append_right _ (List.mem_append_right _ (List.mem_append_right _ (List.mem_append_right _ (List.mem_append_right _ (List.mem_append_right _ (List.mem_append_right _ (List.mem_append_right _ (List.mem_append_right _ (List.mem_append_right _ (List.mem_append_right _ (List.mem_append_right _ (List.mem_append_right _ (List.mem_append_right _ (List.mem_append_right _ (List.mem_append_right _ (List.mem_append_right _ (List.mem_append_right _ (List.mem_append_right _ (List.mem_append_right _ (List.mem_append_right _ (List.mem_append_right _ (List.mem_of_getElem? (i := 32) rfl))))))))))))))))))))))
theorem q913 : (.methodLink R_law 140 y_Mo_count : Cond) ∈ TB := List.mem_append_right _ (List.mem_append_right _ (List.mem_append_right _ (List.mem_append_right _ (List.mem_append_right _ (List.mem_append_right _ (List.mem_append_right _ (List.mem_append_right _ (List.mem_append_right _ (List.mem_append_right _ (List.mem_append_right _ (List.mem_append_right _ (List.mem_append_right _ (List.mem_append_right _ (List.mem_append_right _ (List.mem_append_right _ (List.mem_append_right _ (List.mem_append_right _ (List.mem_append_right _ (List.mem_append_right _ (List.mem_append_right _ (List.mem_append_right _ (List.mem_of_getElem? (i := 33) rfl))))))))))))))))))))))
theorem q914 : (.instanceMethod y_Mo_count : Cond) ∈ TB := List.mem_append_right _ (List.mem_append_right _ (List.mem_append_right _ (List.mem_append_right _ (List.mem_append_right _ (List.mem_append_right _ (List.mem_append_right _ (List.mem_append_right _ (List.mem_append_right _ (List.mem_append_right _ (List.mem_append_right _ (List.mem_append_right _ (List.mem_append_right _ (List.mem_append_right _ (List.mem_append_right _ (List.mem_append_right _ (List.mem_append_right _ (List.mem_append_right _ (List.mem_append_right _ (List.mem_append_right _ (List.mem_append_right _ (List.mem_append_right _ (List.mem_of_getElem? (i := 34) rfl))))))))))))))))))))))
theorem q915 : (.selects R_Mo y_Mo_count y_Mo_count : Cond) ∈ TB := List.mem_append_right _ (List.mem_append_right _ (List.mem_append_right _ (List.mem_append_right _ (List.mem_append_right _ (List.mem_append_right _ (List.mem_append_right _ (List.mem_append_right _ (List.mem_append_right _ (List.mem_append_right _ (List.mem_append_right _ (List.mem_append_right _ (List.mem_append_right _ (List.mem_append_right _ (List.mem_append_right _ (List.mem_append_right _ (List.mem_append_right _ (List.mem_append_right _ (List.mem_append_right _ (List.mem_append_right _ (List.mem_append_right _ (List.mem_append_right _ (List.mem_of_getElem? (i := 35) rfl))))))))))))))))))))))
theorem q916 : (.code y_Mo_count prog_10_method_60_code 2 (some .int) : Cond) ∈ TB := List.mem_append_right _ (List.mem_append_right _ (List.mem_append_right _ (List.mem_append_right _ (List.mem_append_right _ (List.mem_append_right _ (List.mem_append_right _ (List.mem_append_right _ (List.mem_append_right _ (List.mem_append_right _ (List.mem_append_right _ (List.mem_append_right _ (List.mem_append_right _ (List.mem_append_right _ (List.mem_append_right _ (List.mem_append_right _ (List.mem_append_right _ (List.mem_append_right _ (List.mem_append_right _ (List.mem_append_right _ (List.mem_append_right _ (List.mem_append_right _ (List.mem_of_getElem? (i := 36) rfl))))))))))))))))))))))
theorem q917 : (.fieldLink R_Str 9 "java/lang/String" "value" "[B" : Cond) ∈ TB := List.mem_append_right _ (List.mem_append_right _ (List.mem_append_right _ (List.mem_append_right _ (List.mem_append_right _ (List.mem_append_right _ (List.mem_append_right _ (List.mem_append_right _ (List.mem_append_right _ (List.mem_append_right _ (List.mem_append_right _ (List.mem_append_right _ (List.mem_append_right _ (List.mem_append_right _ (List.mem_append_right _ (List.mem_append_right _ (List.mem_append_right _ (List.mem_append_right _ (List.mem_append_right _ (List.mem_append_right _ (List.mem_append_right _ (List.mem_append_right _ (List.mem_of_getElem? (i := 37) rfl))))))))))))))))))))))
theorem q918 : (.fieldLink R_Str 15 "java/lang/String" "coder" "B" : Cond) ∈ TB := List.mem_append_right _ (List.mem_append_right _ (List.mem_append_right _ (List.mem_append_right _ (List.mem_append_right _ (List.mem_append_right _ (List.mem_append_right _ (List.mem_append_right _ (List.mem_append_right _ (List.mem_append_right _ (List.mem_append_right _ (List.mem_append_right _ (List.mem_append_right _ (List.mem_append_right _ (List.mem_append_right _ (List.mem_append_right _ (List.mem_append_right _ (List.mem_append_right _ (List.mem_append_right _ (List.mem_append_right _ (List.mem_append_right _ (List.mem_append_right _ (List.mem_of_getElem? (i := 38) rfl))))))))))))))))))))))
theorem in_Nm : ∀ w ∈ u_ws R_Nm T_Nm 9, w ∈ TB := by
  intro w hw
  obtain ⟨k, hk, rfl⟩ := List.mem_map.mp hw
  have hk : k < 9 := List.mem_range.mp hk
  match k, hk with
  | 0, _ => exact q296
  | 1, _ => exact q297
  | 2, _ => exact q298
  | 3, _ => exact q299
  | 4, _ => exact q300
  | 5, _ => exact q301
  | 6, _ => exact q302
  | 7, _ => exact q303
  | 8, _ => exact q304
  | n + 9, h => exact absurd h (by omega)
theorem in_Menu : ∀ w ∈ u_ws R_Menu T_Menu 8, w ∈ TB := by
  intro w hw
  obtain ⟨k, hk, rfl⟩ := List.mem_map.mp hw
  have hk : k < 8 := List.mem_range.mp hk
  match k, hk with
  | 0, _ => exact q168
  | 1, _ => exact q169
  | 2, _ => exact q170
  | 3, _ => exact q171
  | 4, _ => exact q172
  | 5, _ => exact q173
  | 6, _ => exact q174
  | 7, _ => exact q175
  | n + 8, h => exact absurd h (by omega)
theorem in_Moment : ∀ w ∈ u_ws R_Moment T_Moment 3, w ∈ TB := by
  intro w hw
  obtain ⟨k, hk, rfl⟩ := List.mem_map.mp hw
  have hk : k < 3 := List.mem_range.mp hk
  match k, hk with
  | 0, _ => exact q188
  | 1, _ => exact q189
  | 2, _ => exact q190
  | n + 3, h => exact absurd h (by omega)
theorem in_Note : ∀ w ∈ u_ws R_Note T_Note 5, w ∈ TB := by
  intro w hw
  obtain ⟨k, hk, rfl⟩ := List.mem_map.mp hw
  have hk : k < 5 := List.mem_range.mp hk
  match k, hk with
  | 0, _ => exact q131
  | 1, _ => exact q132
  | 2, _ => exact q133
  | 3, _ => exact q134
  | 4, _ => exact q135
  | n + 5, h => exact absurd h (by omega)
theorem in_Notes : ∀ w ∈ u_ws R_Notes T_Notes 2, w ∈ TB := by
  intro w hw
  obtain ⟨k, hk, rfl⟩ := List.mem_map.mp hw
  have hk : k < 2 := List.mem_range.mp hk
  match k, hk with
  | 0, _ => exact q139
  | 1, _ => exact q140
  | n + 2, h => exact absurd h (by omega)
theorem in_Pile : ∀ w ∈ u_ws R_Pile T_Pile 2, w ∈ TB := by
  intro w hw
  obtain ⟨k, hk, rfl⟩ := List.mem_map.mp hw
  have hk : k < 2 := List.mem_range.mp hk
  match k, hk with
  | 0, _ => exact q113
  | 1, _ => exact q114
  | n + 2, h => exact absurd h (by omega)
theorem in_Reader : ∀ w ∈ u_ws R_Reader T_Reader 4, w ∈ TB := by
  intro w hw
  obtain ⟨k, hk, rfl⟩ := List.mem_map.mp hw
  have hk : k < 4 := List.mem_range.mp hk
  match k, hk with
  | 0, _ => exact q82
  | 1, _ => exact q83
  | 2, _ => exact q84
  | 3, _ => exact q85
  | n + 4, h => exact absurd h (by omega)
theorem in_Table : ∀ w ∈ u_ws R_Table T_Table 4, w ∈ TB := by
  intro w hw
  obtain ⟨k, hk, rfl⟩ := List.mem_map.mp hw
  have hk : k < 4 := List.mem_range.mp hk
  match k, hk with
  | 0, _ => exact q99
  | 1, _ => exact q100
  | 2, _ => exact q101
  | 3, _ => exact q102
  | n + 4, h => exact absurd h (by omega)
theorem in_Mo : ∀ w ∈ u_ws R_Mo T_Mo 15, w ∈ TB := by
  intro w hw
  obtain ⟨k, hk, rfl⟩ := List.mem_map.mp hw
  have hk : k < 15 := List.mem_range.mp hk
  match k, hk with
  | 0, _ => exact q686
  | 1, _ => exact q687
  | 2, _ => exact q688
  | 3, _ => exact q689
  | 4, _ => exact q690
  | 5, _ => exact q691
  | 6, _ => exact q692
  | 7, _ => exact q693
  | 8, _ => exact q694
  | 9, _ => exact q695
  | 10, _ => exact q696
  | 11, _ => exact q697
  | 12, _ => exact q698
  | 13, _ => exact q699
  | 14, _ => exact q700
  | n + 15, h => exact absurd h (by omega)
theorem nq0 : (.methodLinkNest R_Nm 9 y_Reader_init R_Nm : Cond) ∈ lw_tbl := List.mem_of_getElem? (i := 74) (by decide +kernel)
theorem nq1 : (.methodLinkNest R_Nm 18 y_Table_init R_Nm : Cond) ∈ lw_tbl := List.mem_of_getElem? (i := 95) (by decide +kernel)
theorem nq2 : (.arrayOver (.object "NoneMinds$Table") : Cond) ∈ lw_tbl := List.mem_of_getElem? (i := 122) (by decide +kernel)
theorem nq3 : (.methodLinkNest R_Pile 15 y_Table_init R_Nm : Cond) ∈ lw_tbl := List.mem_of_getElem? (i := 123) (by decide +kernel)
theorem nq4 : (.arrayOver (.object "NoneMinds$Note") : Cond) ∈ lw_tbl := List.mem_of_getElem? (i := 139) (by decide +kernel)
theorem nq5 : (.methodLinkNest R_Notes 17 y_Note_init R_Nm : Cond) ∈ lw_tbl := List.mem_of_getElem? (i := 141) (by decide +kernel)
theorem nq6 : (.methodLinkNest R_Nm 47 y_Menu_init R_Nm : Cond) ∈ lw_tbl := List.mem_of_getElem? (i := 171) (by decide +kernel)
theorem nq7 : (.methodLinkNest R_Reader 19 y_Nm_put R_Nm : Cond) ∈ lw_tbl := List.mem_of_getElem? (i := 286) (by decide +kernel)
theorem nq8 : (.methodLinkNest R_Menu 37 y_Nm_put R_Nm : Cond) ∈ lw_tbl := List.mem_of_getElem? (i := 297) (by decide +kernel)
theorem nq9 : (.methodLinkNest R_Reader 67 y_Nm_isOutside R_Nm : Cond) ∈ lw_tbl := List.mem_of_getElem? (i := 318) (by decide +kernel)
theorem nq10 : (.methodLinkNest R_Menu 41 y_Nm_entry R_Nm : Cond) ∈ lw_tbl := List.mem_of_getElem? (i := 411) (by decide +kernel)
def xNw (U : State) : Prop := va_Nw (.methodLinkNest R_Nm 9 y_Reader_init R_Nm) U ∧ va_Nw (.methodLinkNest R_Nm 18 y_Table_init R_Nm) U ∧ va_AO "NoneMinds$Table" U ∧ va_Nw (.methodLinkNest R_Pile 15 y_Table_init R_Nm) U ∧ va_AO "NoneMinds$Note" U ∧ va_Nw (.methodLinkNest R_Notes 17 y_Note_init R_Nm) U ∧ va_Nw (.methodLinkNest R_Nm 47 y_Menu_init R_Nm) U ∧ va_Nw (.methodLinkNest R_Reader 19 y_Nm_put R_Nm) U ∧ va_Nw (.methodLinkNest R_Menu 37 y_Nm_put R_Nm) U ∧ va_Nw (.methodLinkNest R_Reader 67 y_Nm_isOutside R_Nm) U ∧ va_Nw (.methodLinkNest R_Menu 41 y_Nm_entry R_Nm) U
theorem xNw.warm {s U : State} (hW : s.WarmedH U.vm) (h : xNw s) : xNw U := by
  obtain ⟨h0, h1, h2, h3, h4, h5, h6, h7, h8, h9, h10⟩ := h
  exact ⟨va_Nw.warmM hW h0, va_Nw.warmM hW h1, va_AO.moved hW.alike h2, va_Nw.warmM hW h3, va_AO.moved hW.alike h4, va_Nw.warmM hW h5, va_Nw.warmM hW h6, va_Nw.warmM hW h7, va_Nw.warmM hW h8, va_Nw.warmM hW h9, va_Nw.warmM hW h10⟩
theorem xNw.calling {U : State} {g : JFrame} {mk : MethodId} {a : Array Value} (h : xNw U) : xNw (U.calling g mk a) := by
  obtain ⟨h0, h1, h2, h3, h4, h5, h6, h7, h8, h9, h10⟩ := h
  exact ⟨va_Nw.same (u := U) (U := U.calling g mk a) rfl rfl h0, va_Nw.same (u := U) (U := U.calling g mk a) rfl rfl h1, va_AO.moved (u := U) (U := U.calling g mk a) (Vm.Alike.refl U.vm) h2, va_Nw.same (u := U) (U := U.calling g mk a) rfl rfl h3, va_AO.moved (u := U) (U := U.calling g mk a) (Vm.Alike.refl U.vm) h4, va_Nw.same (u := U) (U := U.calling g mk a) rfl rfl h5, va_Nw.same (u := U) (U := U.calling g mk a) rfl rfl h6, va_Nw.same (u := U) (U := U.calling g mk a) rfl rfl h7, va_Nw.same (u := U) (U := U.calling g mk a) rfl rfl h8, va_Nw.same (u := U) (U := U.calling g mk a) rfl rfl h9, va_Nw.same (u := U) (U := U.calling g mk a) rfl rfl h10⟩
theorem xNw.of {A : Array Value} {s : State} (hts : ∀ w ∈ lw_tbl, w.before A s = true) : xNw s := ⟨va_Nw.of rfl (hts _ nq0), va_Nw.of rfl (hts _ nq1), va_AO.of (hts _ nq2), va_Nw.of rfl (hts _ nq3), va_AO.of (hts _ nq4), va_Nw.of rfl (hts _ nq5), va_Nw.of rfl (hts _ nq6), va_Nw.of rfl (hts _ nq7), va_Nw.of rfl (hts _ nq8), va_Nw.of rfl (hts _ nq9), va_Nw.of rfl (hts _ nq10)⟩
theorem nw0 {s : State} (h : xNw s) : va_Nw (.methodLinkNest R_Nm 9 y_Reader_init R_Nm) s := h.1
theorem nw1 {s : State} (h : xNw s) : va_Nw (.methodLinkNest R_Nm 18 y_Table_init R_Nm) s := h.2.1
theorem nw2 {s : State} (h : xNw s) : va_AO "NoneMinds$Table" s := h.2.2.1
theorem nw3 {s : State} (h : xNw s) : va_Nw (.methodLinkNest R_Pile 15 y_Table_init R_Nm) s := h.2.2.2.1
theorem nw4 {s : State} (h : xNw s) : va_AO "NoneMinds$Note" s := h.2.2.2.2.1
theorem nw5 {s : State} (h : xNw s) : va_Nw (.methodLinkNest R_Notes 17 y_Note_init R_Nm) s := h.2.2.2.2.2.1
theorem nw6 {s : State} (h : xNw s) : va_Nw (.methodLinkNest R_Nm 47 y_Menu_init R_Nm) s := h.2.2.2.2.2.2.1
theorem nw7 {s : State} (h : xNw s) : va_Nw (.methodLinkNest R_Reader 19 y_Nm_put R_Nm) s := h.2.2.2.2.2.2.2.1
theorem nw8 {s : State} (h : xNw s) : va_Nw (.methodLinkNest R_Menu 37 y_Nm_put R_Nm) s := h.2.2.2.2.2.2.2.2.1
theorem nw9 {s : State} (h : xNw s) : va_Nw (.methodLinkNest R_Reader 67 y_Nm_isOutside R_Nm) s := h.2.2.2.2.2.2.2.2.2.1
theorem nw10 {s : State} (h : xNw s) : va_Nw (.methodLinkNest R_Menu 41 y_Nm_entry R_Nm) s := h.2.2.2.2.2.2.2.2.2.2
