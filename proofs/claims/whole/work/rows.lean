section
-- ===== PART A: goes FIRST, ahead of the names: the tables' words, and 'selects' of the private methods out of them =====
/-- a private method of a class that the tables say can be made, by its rows of tables_1 -/
def lw_okq (q : MethodName × Nat) : Prop := (q.1.cls ≠ "java/lang/invoke/MethodHandle" ∧ q.1.cls ≠ "java/lang/invoke/VarHandle") ∧ Cond.instantiable q.1.cls q.2 ∈ tables_1 ∧ Cond.privateMethod q.1 ∈ tables_1 ∧ Cond.instanceMethod q.1 ∈ tables_1
theorem lw_p0 : lw_okq (⟨"BoatLeggers$Reader", "nextToken", "()V"⟩, 9) := ⟨⟨by decide +kernel, by decide +kernel⟩, List.mem_of_getElem? (i := 19) (by decide +kernel), List.mem_of_getElem? (i := 313) (by decide +kernel), List.mem_of_getElem? (i := 314) (by decide +kernel)⟩
theorem lw_p1 : lw_okq (⟨"BoatLeggers$Reader", "takeLetters", "()V"⟩, 9) := ⟨⟨by decide +kernel, by decide +kernel⟩, List.mem_of_getElem? (i := 19) (by decide +kernel), List.mem_of_getElem? (i := 320) (by decide +kernel), List.mem_of_getElem? (i := 321) (by decide +kernel)⟩
theorem lw_p2 : lw_okq (⟨"BoatLeggers$Reader", "takeNumber", "()V"⟩, 9) := ⟨⟨by decide +kernel, by decide +kernel⟩, List.mem_of_getElem? (i := 19) (by decide +kernel), List.mem_of_getElem? (i := 327) (by decide +kernel), List.mem_of_getElem? (i := 328) (by decide +kernel)⟩
theorem lw_p3 : lw_okq (⟨"BoatLeggers$Reader", "readItem", "(LBoatLeggers$Tunnel;)Z"⟩, 9) := ⟨⟨by decide +kernel, by decide +kernel⟩, List.mem_of_getElem? (i := 19) (by decide +kernel), List.mem_of_getElem? (i := 334) (by decide +kernel), List.mem_of_getElem? (i := 335) (by decide +kernel)⟩
theorem lw_p4 : lw_okq (⟨"BoatLeggers$Reader", "mayBegin", "(LBoatLeggers$Tunnel;I)Z"⟩, 9) := ⟨⟨by decide +kernel, by decide +kernel⟩, List.mem_of_getElem? (i := 19) (by decide +kernel), List.mem_of_getElem? (i := 338) (by decide +kernel), List.mem_of_getElem? (i := 339) (by decide +kernel)⟩
theorem lw_p5 : lw_okq (⟨"BoatLeggers$Reader", "readNumbers", "([I)Z"⟩, 9) := ⟨⟨by decide +kernel, by decide +kernel⟩, List.mem_of_getElem? (i := 19) (by decide +kernel), List.mem_of_getElem? (i := 353) (by decide +kernel), List.mem_of_getElem? (i := 354) (by decide +kernel)⟩
theorem lw_p6 : lw_okq (⟨"BoatLeggers$Reader", "tell", "(LBoatLeggers$Tunnel;I)V"⟩, 9) := ⟨⟨by decide +kernel, by decide +kernel⟩, List.mem_of_getElem? (i := 19) (by decide +kernel), List.mem_of_getElem? (i := 357) (by decide +kernel), List.mem_of_getElem? (i := 358) (by decide +kernel)⟩
theorem lw_p7 : lw_okq (⟨"BoatLeggers$Tunnel", "boundMinutes", "(I)V"⟩, 14) := ⟨⟨by decide +kernel, by decide +kernel⟩, List.mem_of_getElem? (i := 56) (by decide +kernel), List.mem_of_getElem? (i := 373) (by decide +kernel), List.mem_of_getElem? (i := 374) (by decide +kernel)⟩
theorem lw_p8 : lw_okq (⟨"BoatLeggers", "moved", "()V"⟩, 11) := ⟨⟨by decide +kernel, by decide +kernel⟩, List.mem_of_getElem? (i := 11) (by decide +kernel), List.mem_of_getElem? (i := 393) (by decide +kernel), List.mem_of_getElem? (i := 394) (by decide +kernel)⟩
theorem lw_p9 : lw_okq (⟨"BoatLeggers$Voyage", "loseOldest", "()V"⟩, 3) := ⟨⟨by decide +kernel, by decide +kernel⟩, List.mem_of_getElem? (i := 133) (by decide +kernel), List.mem_of_getElem? (i := 443) (by decide +kernel), List.mem_of_getElem? (i := 444) (by decide +kernel)⟩
theorem lw_p10 : lw_okq (⟨"BoatLeggers", "planned", "(LBoatLeggers$Planner;I)I"⟩, 11) := ⟨⟨by decide +kernel, by decide +kernel⟩, List.mem_of_getElem? (i := 11) (by decide +kernel), List.mem_of_getElem? (i := 503) (by decide +kernel), List.mem_of_getElem? (i := 504) (by decide +kernel)⟩
theorem lw_p11 : lw_okq (⟨"BoatLeggers$Planner", "search", "(LBoatLeggers$Tunnel;I)V"⟩, 6) := ⟨⟨by decide +kernel, by decide +kernel⟩, List.mem_of_getElem? (i := 227) (by decide +kernel), List.mem_of_getElem? (i := 512) (by decide +kernel), List.mem_of_getElem? (i := 513) (by decide +kernel)⟩
theorem lw_p12 : lw_okq (⟨"BoatLeggers$Planner", "take", "(I)V"⟩, 6) := ⟨⟨by decide +kernel, by decide +kernel⟩, List.mem_of_getElem? (i := 227) (by decide +kernel), List.mem_of_getElem? (i := 516) (by decide +kernel), List.mem_of_getElem? (i := 517) (by decide +kernel)⟩
theorem lw_p13 : lw_okq (⟨"BoatLeggers$Planner", "mayBeQuicker", "(LBoatLeggers$Tunnel;II)Z"⟩, 6) := ⟨⟨by decide +kernel, by decide +kernel⟩, List.mem_of_getElem? (i := 227) (by decide +kernel), List.mem_of_getElem? (i := 522) (by decide +kernel), List.mem_of_getElem? (i := 523) (by decide +kernel)⟩
theorem lw_p14 : lw_okq (⟨"BoatLeggers", "minutesWithHired", "(II)I"⟩, 11) := ⟨⟨by decide +kernel, by decide +kernel⟩, List.mem_of_getElem? (i := 11) (by decide +kernel), List.mem_of_getElem? (i := 535) (by decide +kernel), List.mem_of_getElem? (i := 536) (by decide +kernel)⟩
theorem lw_p15 : lw_okq (⟨"BoatLeggers", "minutesThrough", "(I)I"⟩, 11) := ⟨⟨by decide +kernel, by decide +kernel⟩, List.mem_of_getElem? (i := 11) (by decide +kernel), List.mem_of_getElem? (i := 548) (by decide +kernel), List.mem_of_getElem? (i := 549) (by decide +kernel)⟩
def lw_privs_1 : List (MethodName × Nat) := [(⟨"BoatLeggers$Reader", "nextToken", "()V"⟩, 9), (⟨"BoatLeggers$Reader", "takeLetters", "()V"⟩, 9), (⟨"BoatLeggers$Reader", "takeNumber", "()V"⟩, 9), (⟨"BoatLeggers$Reader", "readItem", "(LBoatLeggers$Tunnel;)Z"⟩, 9), (⟨"BoatLeggers$Reader", "mayBegin", "(LBoatLeggers$Tunnel;I)Z"⟩, 9), (⟨"BoatLeggers$Reader", "readNumbers", "([I)Z"⟩, 9), (⟨"BoatLeggers$Reader", "tell", "(LBoatLeggers$Tunnel;I)V"⟩, 9), (⟨"BoatLeggers$Tunnel", "boundMinutes", "(I)V"⟩, 14), (⟨"BoatLeggers", "moved", "()V"⟩, 11), (⟨"BoatLeggers$Voyage", "loseOldest", "()V"⟩, 3), (⟨"BoatLeggers", "planned", "(LBoatLeggers$Planner;I)I"⟩, 11), (⟨"BoatLeggers$Planner", "search", "(LBoatLeggers$Tunnel;I)V"⟩, 6), (⟨"BoatLeggers$Planner", "take", "(I)V"⟩, 6), (⟨"BoatLeggers$Planner", "mayBeQuicker", "(LBoatLeggers$Tunnel;II)Z"⟩, 6), (⟨"BoatLeggers", "minutesWithHired", "(II)I"⟩, 11), (⟨"BoatLeggers", "minutesThrough", "(I)I"⟩, 11)]
theorem lw_r1 : ∀ q ∈ lw_privs_1, lw_okq q := List.forall_mem_cons.mpr ⟨lw_p0, List.forall_mem_cons.mpr ⟨lw_p1, List.forall_mem_cons.mpr ⟨lw_p2, List.forall_mem_cons.mpr ⟨lw_p3, List.forall_mem_cons.mpr ⟨lw_p4, List.forall_mem_cons.mpr ⟨lw_p5, List.forall_mem_cons.mpr ⟨lw_p6, List.forall_mem_cons.mpr ⟨lw_p7, List.forall_mem_cons.mpr ⟨lw_p8, List.forall_mem_cons.mpr ⟨lw_p9, List.forall_mem_cons.mpr ⟨lw_p10, List.forall_mem_cons.mpr ⟨lw_p11, List.forall_mem_cons.mpr ⟨lw_p12, List.forall_mem_cons.mpr ⟨lw_p13, List.forall_mem_cons.mpr ⟨lw_p14, List.forall_mem_cons.mpr ⟨lw_p15, fun _ h => absurd h List.not_mem_nil⟩⟩⟩⟩⟩⟩⟩⟩⟩⟩⟩⟩⟩⟩⟩⟩
theorem lw_p16 : lw_okq (⟨"BoatLeggers", "meetingStretch", "(III)I"⟩, 11) := ⟨⟨by decide +kernel, by decide +kernel⟩, List.mem_of_getElem? (i := 11) (by decide +kernel), List.mem_of_getElem? (i := 560) (by decide +kernel), List.mem_of_getElem? (i := 561) (by decide +kernel)⟩
theorem lw_p17 : lw_okq (⟨"BoatLeggers$Sightings", "gatherDue", "()Z"⟩, 11) := ⟨⟨by decide +kernel, by decide +kernel⟩, List.mem_of_getElem? (i := 179) (by decide +kernel), List.mem_of_getElem? (i := 599) (by decide +kernel), List.mem_of_getElem? (i := 600) (by decide +kernel)⟩
theorem lw_p18 : lw_okq (⟨"BoatLeggers$Sightings", "search", "(LBoatLeggers$Tunnel;I)V"⟩, 11) := ⟨⟨by decide +kernel, by decide +kernel⟩, List.mem_of_getElem? (i := 179) (by decide +kernel), List.mem_of_getElem? (i := 605) (by decide +kernel), List.mem_of_getElem? (i := 606) (by decide +kernel)⟩
theorem lw_p19 : lw_okq (⟨"BoatLeggers$Sightings", "addRows", "(LBoatLeggers$Tunnel;I)V"⟩, 11) := ⟨⟨by decide +kernel, by decide +kernel⟩, List.mem_of_getElem? (i := 179) (by decide +kernel), List.mem_of_getElem? (i := 609) (by decide +kernel), List.mem_of_getElem? (i := 610) (by decide +kernel)⟩
theorem lw_p20 : lw_okq (⟨"BoatLeggers$Sightings", "mayFit", "(LBoatLeggers$Tunnel;II)Z"⟩, 11) := ⟨⟨by decide +kernel, by decide +kernel⟩, List.mem_of_getElem? (i := 179) (by decide +kernel), List.mem_of_getElem? (i := 618) (by decide +kernel), List.mem_of_getElem? (i := 619) (by decide +kernel)⟩
theorem lw_p21 : lw_okq (⟨"BoatLeggers", "asStep", "(I)I"⟩, 11) := ⟨⟨by decide +kernel, by decide +kernel⟩, List.mem_of_getElem? (i := 11) (by decide +kernel), List.mem_of_getElem? (i := 633) (by decide +kernel), List.mem_of_getElem? (i := 634) (by decide +kernel)⟩
theorem lw_p22 : lw_okq (⟨"BoatLeggers", "asFirm", "(I)I"⟩, 11) := ⟨⟨by decide +kernel, by decide +kernel⟩, List.mem_of_getElem? (i := 11) (by decide +kernel), List.mem_of_getElem? (i := 637) (by decide +kernel), List.mem_of_getElem? (i := 638) (by decide +kernel)⟩
theorem lw_p23 : lw_okq (⟨"BoatLeggers", "asSlimy", "(I)I"⟩, 11) := ⟨⟨by decide +kernel, by decide +kernel⟩, List.mem_of_getElem? (i := 11) (by decide +kernel), List.mem_of_getElem? (i := 642) (by decide +kernel), List.mem_of_getElem? (i := 643) (by decide +kernel)⟩
theorem lw_p24 : lw_okq (⟨"BoatLeggers", "asStretched", "(I)I"⟩, 11) := ⟨⟨by decide +kernel, by decide +kernel⟩, List.mem_of_getElem? (i := 11) (by decide +kernel), List.mem_of_getElem? (i := 651) (by decide +kernel), List.mem_of_getElem? (i := 652) (by decide +kernel)⟩
theorem lw_p25 : lw_okq (⟨"BoatLeggers", "asCramped", "(I)I"⟩, 11) := ⟨⟨by decide +kernel, by decide +kernel⟩, List.mem_of_getElem? (i := 11) (by decide +kernel), List.mem_of_getElem? (i := 656) (by decide +kernel), List.mem_of_getElem? (i := 657) (by decide +kernel)⟩
theorem lw_p26 : lw_okq (⟨"BoatLeggers", "asBlind", "(I)I"⟩, 11) := ⟨⟨by decide +kernel, by decide +kernel⟩, List.mem_of_getElem? (i := 11) (by decide +kernel), List.mem_of_getElem? (i := 665) (by decide +kernel), List.mem_of_getElem? (i := 666) (by decide +kernel)⟩
theorem lw_p27 : lw_okq (⟨"BoatLeggersModel", "begins", "()V"⟩, 34) := ⟨⟨by decide +kernel, by decide +kernel⟩, List.mem_of_getElem? (i := 690) (by decide +kernel), List.mem_of_getElem? (i := 696) (by decide +kernel), List.mem_of_getElem? (i := 697) (by decide +kernel)⟩
theorem lw_p28 : lw_okq (⟨"BoatLeggersModel", "next", "()V"⟩, 34) := ⟨⟨by decide +kernel, by decide +kernel⟩, List.mem_of_getElem? (i := 690) (by decide +kernel), List.mem_of_getElem? (i := 818) (by decide +kernel), List.mem_of_getElem? (i := 819) (by decide +kernel)⟩
theorem lw_p29 : lw_okq (⟨"BoatLeggersModel", "byteAt", "(I)I"⟩, 34) := ⟨⟨by decide +kernel, by decide +kernel⟩, List.mem_of_getElem? (i := 690) (by decide +kernel), List.mem_of_getElem? (i := 822) (by decide +kernel), List.mem_of_getElem? (i := 823) (by decide +kernel)⟩
theorem lw_p30 : lw_okq (⟨"BoatLeggersModel", "readItem", "()V"⟩, 34) := ⟨⟨by decide +kernel, by decide +kernel⟩, List.mem_of_getElem? (i := 690) (by decide +kernel), List.mem_of_getElem? (i := 832) (by decide +kernel), List.mem_of_getElem? (i := 833) (by decide +kernel)⟩
theorem lw_p31 : lw_okq (⟨"BoatLeggersModel", "readWalker", "()V"⟩, 34) := ⟨⟨by decide +kernel, by decide +kernel⟩, List.mem_of_getElem? (i := 690) (by decide +kernel), List.mem_of_getElem? (i := 836) (by decide +kernel), List.mem_of_getElem? (i := 837) (by decide +kernel)⟩
def lw_privs_2 : List (MethodName × Nat) := [(⟨"BoatLeggers", "meetingStretch", "(III)I"⟩, 11), (⟨"BoatLeggers$Sightings", "gatherDue", "()Z"⟩, 11), (⟨"BoatLeggers$Sightings", "search", "(LBoatLeggers$Tunnel;I)V"⟩, 11), (⟨"BoatLeggers$Sightings", "addRows", "(LBoatLeggers$Tunnel;I)V"⟩, 11), (⟨"BoatLeggers$Sightings", "mayFit", "(LBoatLeggers$Tunnel;II)Z"⟩, 11), (⟨"BoatLeggers", "asStep", "(I)I"⟩, 11), (⟨"BoatLeggers", "asFirm", "(I)I"⟩, 11), (⟨"BoatLeggers", "asSlimy", "(I)I"⟩, 11), (⟨"BoatLeggers", "asStretched", "(I)I"⟩, 11), (⟨"BoatLeggers", "asCramped", "(I)I"⟩, 11), (⟨"BoatLeggers", "asBlind", "(I)I"⟩, 11), (⟨"BoatLeggersModel", "begins", "()V"⟩, 34), (⟨"BoatLeggersModel", "next", "()V"⟩, 34), (⟨"BoatLeggersModel", "byteAt", "(I)I"⟩, 34), (⟨"BoatLeggersModel", "readItem", "()V"⟩, 34), (⟨"BoatLeggersModel", "readWalker", "()V"⟩, 34)]
theorem lw_r2 : ∀ q ∈ lw_privs_2, lw_okq q := List.forall_mem_cons.mpr ⟨lw_p16, List.forall_mem_cons.mpr ⟨lw_p17, List.forall_mem_cons.mpr ⟨lw_p18, List.forall_mem_cons.mpr ⟨lw_p19, List.forall_mem_cons.mpr ⟨lw_p20, List.forall_mem_cons.mpr ⟨lw_p21, List.forall_mem_cons.mpr ⟨lw_p22, List.forall_mem_cons.mpr ⟨lw_p23, List.forall_mem_cons.mpr ⟨lw_p24, List.forall_mem_cons.mpr ⟨lw_p25, List.forall_mem_cons.mpr ⟨lw_p26, List.forall_mem_cons.mpr ⟨lw_p27, List.forall_mem_cons.mpr ⟨lw_p28, List.forall_mem_cons.mpr ⟨lw_p29, List.forall_mem_cons.mpr ⟨lw_p30, List.forall_mem_cons.mpr ⟨lw_p31, fun _ h => absurd h List.not_mem_nil⟩⟩⟩⟩⟩⟩⟩⟩⟩⟩⟩⟩⟩⟩⟩⟩
theorem lw_p32 : lw_okq (⟨"BoatLeggersModel", "reads", "([IIII)V"⟩, 34) := ⟨⟨by decide +kernel, by decide +kernel⟩, List.mem_of_getElem? (i := 690) (by decide +kernel), List.mem_of_getElem? (i := 840) (by decide +kernel), List.mem_of_getElem? (i := 841) (by decide +kernel)⟩
theorem lw_p33 : lw_okq (⟨"BoatLeggersModel", "readStretch", "()V"⟩, 34) := ⟨⟨by decide +kernel, by decide +kernel⟩, List.mem_of_getElem? (i := 690) (by decide +kernel), List.mem_of_getElem? (i := 844) (by decide +kernel), List.mem_of_getElem? (i := 845) (by decide +kernel)⟩
theorem lw_p34 : lw_okq (⟨"BoatLeggersModel", "isWalker", "(I)Z"⟩, 34) := ⟨⟨by decide +kernel, by decide +kernel⟩, List.mem_of_getElem? (i := 690) (by decide +kernel), List.mem_of_getElem? (i := 852) (by decide +kernel), List.mem_of_getElem? (i := 853) (by decide +kernel)⟩
theorem lw_p35 : lw_okq (⟨"BoatLeggersModel", "isStretch", "(I)Z"⟩, 34) := ⟨⟨by decide +kernel, by decide +kernel⟩, List.mem_of_getElem? (i := 690) (by decide +kernel), List.mem_of_getElem? (i := 860) (by decide +kernel), List.mem_of_getElem? (i := 861) (by decide +kernel)⟩
theorem lw_p36 : lw_okq (⟨"BoatLeggersModel", "isPair", "(I)Z"⟩, 34) := ⟨⟨by decide +kernel, by decide +kernel⟩, List.mem_of_getElem? (i := 690) (by decide +kernel), List.mem_of_getElem? (i := 868) (by decide +kernel), List.mem_of_getElem? (i := 869) (by decide +kernel)⟩
theorem lw_p37 : lw_okq (⟨"BoatLeggersModel", "fromNow", "()V"⟩, 34) := ⟨⟨by decide +kernel, by decide +kernel⟩, List.mem_of_getElem? (i := 690) (by decide +kernel), List.mem_of_getElem? (i := 872) (by decide +kernel), List.mem_of_getElem? (i := 873) (by decide +kernel)⟩
theorem lw_p38 : lw_okq (⟨"BoatLeggersModel", "takesAt", "(III)I"⟩, 34) := ⟨⟨by decide +kernel, by decide +kernel⟩, List.mem_of_getElem? (i := 690) (by decide +kernel), List.mem_of_getElem? (i := 876) (by decide +kernel), List.mem_of_getElem? (i := 877) (by decide +kernel)⟩
theorem lw_p39 : lw_okq (⟨"BoatLeggersModel", "isWorn", "(II)Z"⟩, 34) := ⟨⟨by decide +kernel, by decide +kernel⟩, List.mem_of_getElem? (i := 690) (by decide +kernel), List.mem_of_getElem? (i := 880) (by decide +kernel), List.mem_of_getElem? (i := 881) (by decide +kernel)⟩
theorem lw_p40 : lw_okq (⟨"BoatLeggersModel", "walksOn", "(III)V"⟩, 34) := ⟨⟨by decide +kernel, by decide +kernel⟩, List.mem_of_getElem? (i := 690) (by decide +kernel), List.mem_of_getElem? (i := 888) (by decide +kernel), List.mem_of_getElem? (i := 889) (by decide +kernel)⟩
theorem lw_p41 : lw_okq (⟨"BoatLeggersModel", "tires", "(III)V"⟩, 34) := ⟨⟨by decide +kernel, by decide +kernel⟩, List.mem_of_getElem? (i := 690) (by decide +kernel), List.mem_of_getElem? (i := 892) (by decide +kernel), List.mem_of_getElem? (i := 893) (by decide +kernel)⟩
theorem lw_p42 : lw_okq (⟨"BoatLeggersModel", "becomes", "(III)V"⟩, 34) := ⟨⟨by decide +kernel, by decide +kernel⟩, List.mem_of_getElem? (i := 690) (by decide +kernel), List.mem_of_getElem? (i := 896) (by decide +kernel), List.mem_of_getElem? (i := 897) (by decide +kernel)⟩
theorem lw_p43 : lw_okq (⟨"BoatLeggersModel", "remembers", "()V"⟩, 34) := ⟨⟨by decide +kernel, by decide +kernel⟩, List.mem_of_getElem? (i := 690) (by decide +kernel), List.mem_of_getElem? (i := 900) (by decide +kernel), List.mem_of_getElem? (i := 901) (by decide +kernel)⟩
theorem lw_p44 : lw_okq (⟨"BoatLeggersModel", "isFree", "(I)Z"⟩, 34) := ⟨⟨by decide +kernel, by decide +kernel⟩, List.mem_of_getElem? (i := 690) (by decide +kernel), List.mem_of_getElem? (i := 920) (by decide +kernel), List.mem_of_getElem? (i := 921) (by decide +kernel)⟩
theorem lw_p45 : lw_okq (⟨"BoatLeggersModel", "told", "(II)I"⟩, 34) := ⟨⟨by decide +kernel, by decide +kernel⟩, List.mem_of_getElem? (i := 690) (by decide +kernel), List.mem_of_getElem? (i := 928) (by decide +kernel), List.mem_of_getElem? (i := 929) (by decide +kernel)⟩
theorem lw_p46 : lw_okq (⟨"BoatLeggersModel", "search", "(II)V"⟩, 34) := ⟨⟨by decide +kernel, by decide +kernel⟩, List.mem_of_getElem? (i := 690) (by decide +kernel), List.mem_of_getElem? (i := 932) (by decide +kernel), List.mem_of_getElem? (i := 933) (by decide +kernel)⟩
theorem lw_p47 : lw_okq (⟨"BoatLeggersModel", "finds", "(II)V"⟩, 34) := ⟨⟨by decide +kernel, by decide +kernel⟩, List.mem_of_getElem? (i := 690) (by decide +kernel), List.mem_of_getElem? (i := 936) (by decide +kernel), List.mem_of_getElem? (i := 937) (by decide +kernel)⟩
def lw_privs_3 : List (MethodName × Nat) := [(⟨"BoatLeggersModel", "reads", "([IIII)V"⟩, 34), (⟨"BoatLeggersModel", "readStretch", "()V"⟩, 34), (⟨"BoatLeggersModel", "isWalker", "(I)Z"⟩, 34), (⟨"BoatLeggersModel", "isStretch", "(I)Z"⟩, 34), (⟨"BoatLeggersModel", "isPair", "(I)Z"⟩, 34), (⟨"BoatLeggersModel", "fromNow", "()V"⟩, 34), (⟨"BoatLeggersModel", "takesAt", "(III)I"⟩, 34), (⟨"BoatLeggersModel", "isWorn", "(II)Z"⟩, 34), (⟨"BoatLeggersModel", "walksOn", "(III)V"⟩, 34), (⟨"BoatLeggersModel", "tires", "(III)V"⟩, 34), (⟨"BoatLeggersModel", "becomes", "(III)V"⟩, 34), (⟨"BoatLeggersModel", "remembers", "()V"⟩, 34), (⟨"BoatLeggersModel", "isFree", "(I)Z"⟩, 34), (⟨"BoatLeggersModel", "told", "(II)I"⟩, 34), (⟨"BoatLeggersModel", "search", "(II)V"⟩, 34), (⟨"BoatLeggersModel", "finds", "(II)V"⟩, 34)]
theorem lw_r3 : ∀ q ∈ lw_privs_3, lw_okq q := List.forall_mem_cons.mpr ⟨lw_p32, List.forall_mem_cons.mpr ⟨lw_p33, List.forall_mem_cons.mpr ⟨lw_p34, List.forall_mem_cons.mpr ⟨lw_p35, List.forall_mem_cons.mpr ⟨lw_p36, List.forall_mem_cons.mpr ⟨lw_p37, List.forall_mem_cons.mpr ⟨lw_p38, List.forall_mem_cons.mpr ⟨lw_p39, List.forall_mem_cons.mpr ⟨lw_p40, List.forall_mem_cons.mpr ⟨lw_p41, List.forall_mem_cons.mpr ⟨lw_p42, List.forall_mem_cons.mpr ⟨lw_p43, List.forall_mem_cons.mpr ⟨lw_p44, List.forall_mem_cons.mpr ⟨lw_p45, List.forall_mem_cons.mpr ⟨lw_p46, List.forall_mem_cons.mpr ⟨lw_p47, fun _ h => absurd h List.not_mem_nil⟩⟩⟩⟩⟩⟩⟩⟩⟩⟩⟩⟩⟩⟩⟩⟩
theorem lw_p48 : lw_okq (⟨"BoatLeggersModel", "pairBy", "(I)I"⟩, 34) := ⟨⟨by decide +kernel, by decide +kernel⟩, List.mem_of_getElem? (i := 690) (by decide +kernel), List.mem_of_getElem? (i := 940) (by decide +kernel), List.mem_of_getElem? (i := 941) (by decide +kernel)⟩
theorem lw_p49 : lw_okq (⟨"BoatLeggersModel", "goesDown", "(IIII)Z"⟩, 34) := ⟨⟨by decide +kernel, by decide +kernel⟩, List.mem_of_getElem? (i := 690) (by decide +kernel), List.mem_of_getElem? (i := 944) (by decide +kernel), List.mem_of_getElem? (i := 945) (by decide +kernel)⟩
theorem lw_p50 : lw_okq (⟨"BoatLeggersModel", "isAsSeen", "(II)Z"⟩, 34) := ⟨⟨by decide +kernel, by decide +kernel⟩, List.mem_of_getElem? (i := 690) (by decide +kernel), List.mem_of_getElem? (i := 948) (by decide +kernel), List.mem_of_getElem? (i := 949) (by decide +kernel)⟩
theorem lw_p51 : lw_okq (⟨"BoatLeggersModel", "penceOf", "(I)I"⟩, 34) := ⟨⟨by decide +kernel, by decide +kernel⟩, List.mem_of_getElem? (i := 690) (by decide +kernel), List.mem_of_getElem? (i := 960) (by decide +kernel), List.mem_of_getElem? (i := 961) (by decide +kernel)⟩
theorem lw_p52 : lw_okq (⟨"BoatLeggersModel", "minutesBy", "(II)I"⟩, 34) := ⟨⟨by decide +kernel, by decide +kernel⟩, List.mem_of_getElem? (i := 690) (by decide +kernel), List.mem_of_getElem? (i := 967) (by decide +kernel), List.mem_of_getElem? (i := 968) (by decide +kernel)⟩
theorem lw_p53 : lw_okq (⟨"BoatLeggersModel", "walksAll", "(I)I"⟩, 34) := ⟨⟨by decide +kernel, by decide +kernel⟩, List.mem_of_getElem? (i := 690) (by decide +kernel), List.mem_of_getElem? (i := 975) (by decide +kernel), List.mem_of_getElem? (i := 976) (by decide +kernel)⟩
theorem lw_p54 : lw_okq (⟨"BoatLeggersModel", "findFits", "()V"⟩, 34) := ⟨⟨by decide +kernel, by decide +kernel⟩, List.mem_of_getElem? (i := 690) (by decide +kernel), List.mem_of_getElem? (i := 999) (by decide +kernel), List.mem_of_getElem? (i := 1000) (by decide +kernel)⟩
theorem lw_p55 : lw_okq (⟨"BoatLeggersModel", "stepMark", "(I)I"⟩, 34) := ⟨⟨by decide +kernel, by decide +kernel⟩, List.mem_of_getElem? (i := 690) (by decide +kernel), List.mem_of_getElem? (i := 1012) (by decide +kernel), List.mem_of_getElem? (i := 1013) (by decide +kernel)⟩
theorem lw_p56 : lw_okq (⟨"BoatLeggersModel", "firmMark", "(I)I"⟩, 34) := ⟨⟨by decide +kernel, by decide +kernel⟩, List.mem_of_getElem? (i := 690) (by decide +kernel), List.mem_of_getElem? (i := 1016) (by decide +kernel), List.mem_of_getElem? (i := 1017) (by decide +kernel)⟩
theorem lw_p57 : lw_okq (⟨"BoatLeggersModel", "slimyMark", "(I)I"⟩, 34) := ⟨⟨by decide +kernel, by decide +kernel⟩, List.mem_of_getElem? (i := 690) (by decide +kernel), List.mem_of_getElem? (i := 1021) (by decide +kernel), List.mem_of_getElem? (i := 1022) (by decide +kernel)⟩
theorem lw_p58 : lw_okq (⟨"BoatLeggersModel", "shafts", "()I"⟩, 34) := ⟨⟨by decide +kernel, by decide +kernel⟩, List.mem_of_getElem? (i := 690) (by decide +kernel), List.mem_of_getElem? (i := 1028) (by decide +kernel), List.mem_of_getElem? (i := 1029) (by decide +kernel)⟩
def lw_privs_4 : List (MethodName × Nat) := [(⟨"BoatLeggersModel", "pairBy", "(I)I"⟩, 34), (⟨"BoatLeggersModel", "goesDown", "(IIII)Z"⟩, 34), (⟨"BoatLeggersModel", "isAsSeen", "(II)Z"⟩, 34), (⟨"BoatLeggersModel", "penceOf", "(I)I"⟩, 34), (⟨"BoatLeggersModel", "minutesBy", "(II)I"⟩, 34), (⟨"BoatLeggersModel", "walksAll", "(I)I"⟩, 34), (⟨"BoatLeggersModel", "findFits", "()V"⟩, 34), (⟨"BoatLeggersModel", "stepMark", "(I)I"⟩, 34), (⟨"BoatLeggersModel", "firmMark", "(I)I"⟩, 34), (⟨"BoatLeggersModel", "slimyMark", "(I)I"⟩, 34), (⟨"BoatLeggersModel", "shafts", "()I"⟩, 34)]
theorem lw_r4 : ∀ q ∈ lw_privs_4, lw_okq q := List.forall_mem_cons.mpr ⟨lw_p48, List.forall_mem_cons.mpr ⟨lw_p49, List.forall_mem_cons.mpr ⟨lw_p50, List.forall_mem_cons.mpr ⟨lw_p51, List.forall_mem_cons.mpr ⟨lw_p52, List.forall_mem_cons.mpr ⟨lw_p53, List.forall_mem_cons.mpr ⟨lw_p54, List.forall_mem_cons.mpr ⟨lw_p55, List.forall_mem_cons.mpr ⟨lw_p56, List.forall_mem_cons.mpr ⟨lw_p57, List.forall_mem_cons.mpr ⟨lw_p58, fun _ h => absurd h List.not_mem_nil⟩⟩⟩⟩⟩⟩⟩⟩⟩⟩⟩
def lw_privs : List (MethodName × Nat) := lw_privs_1 ++ (lw_privs_2 ++ (lw_privs_3 ++ (lw_privs_4)))
def lw_tbl : List Cond := k2_sels lw_privs ++ tables_1
theorem lw_privs_ok : ∀ q ∈ lw_privs, lw_okq q := by
  show ∀ q ∈ lw_privs_1 ++ (lw_privs_2 ++ (lw_privs_3 ++ (lw_privs_4))), lw_okq q
  exact List.forall_mem_append.mpr ⟨lw_r1, List.forall_mem_append.mpr ⟨lw_r2, List.forall_mem_append.mpr ⟨lw_r3, lw_r4⟩⟩⟩
end
section
/-! ===== BEGIN words of one list among another's, by their places ===== -/
theorem goodIn_r {big : List Cond} (ws : List Cond) (ps : List Nat) (hp : ws = ps.filterMap (fun i => big[i]?)) (h : ws.all goodWord = true) : GoodIn big ws := by
  intro w hw
  have h1 := List.all_eq_true.mp h w hw
  rw [hp] at hw
  obtain ⟨i, -, hi⟩ := List.mem_filterMap.mp hw
  have hm : w ∈ big := by first | exact List.mem_of_getElem? hi | exact List.getElem?_mem hi
  exact ⟨hm, good_of_word h1⟩
theorem goodIn_app {big a b : List Cond} (ha : GoodIn big a) (hb : GoodIn big b) : GoodIn big (a ++ b) := fun w h => (List.mem_append.mp h).elim (ha w) (hb w)
theorem goodIn_ca {big a b : List Cond} {c : Cond} (ha : GoodIn big (c :: a)) (hb : GoodIn big b) : GoodIn big (c :: (a ++ b)) := fun w h => (List.mem_cons.mp h).elim (fun e => ha w (List.mem_cons.mpr (Or.inl e))) (fun h => (List.mem_append.mp h).elim (fun h => ha w (List.mem_cons.mpr (Or.inr h))) (hb w))
theorem goodIn_sub {big ws : List Cond} (hm : ∀ w ∈ ws, w ∈ big) (h : ws.all goodWord = true) : GoodIn big ws := fun w hw => ⟨hm w hw, good_of_word (List.all_eq_true.mp h w hw)⟩
/-! ===== END ===== -/

/-! ===== BEGIN printed: names, fields, word lists, decode rows ===== -/
def RX0 : String := "BoatLeggers$Moment"
def TX0 : u_T := fun k => match k with
  | 0 => ("BoatLeggers$Moment", "gone", "I", false)
  | 1 => ("BoatLeggers$Moment", "minute", "I", false)
  | 2 => ("BoatLeggers$Moment", "pair", "I", false)
  | _ => ("BoatLeggers$Moment", "tired", "[I", true)
def tyX0 : Nat → FieldType := fun k => match k with
  | 0 => .int
  | 1 => .int
  | 2 => .int
  | _ => .array .int
abbrev wsX00 : List Cond := u_ws RX0 TX0 4
theorem nmX0 : ∀ a, a < 4 → ∀ b, b < 4 → a ≠ b → (TX0 a).2.1 ≠ (TX0 b).2.1 := by decide +kernel
theorem tyX0_ok : ∀ k, k < 4 → parseFieldDescriptor (TX0 k).2.2.1 = some (tyX0 k) := by decide +kernel
abbrev cX0_init : ByteArray := prog_2_method_1_code
def yX0_init : MethodName := ⟨RX0, "<init>", "()V"⟩
abbrev cX0_begin : ByteArray := prog_2_method_2_code
def yX0_begin : MethodName := ⟨RX0, "begin", "()V"⟩
abbrev cX0_copy : ByteArray := prog_2_method_3_code
def yX0_copy : MethodName := ⟨RX0, "copy", "(LBoatLeggers$Moment;)V"⟩
abbrev cX0_isWorn : ByteArray := prog_2_method_4_code
def yX0_isWorn : MethodName := ⟨RX0, "isWorn", "(LBoatLeggers$Tunnel;I)Z"⟩
abbrev cX0_wornBits : ByteArray := prog_2_method_5_code
def yX0_wornBits : MethodName := ⟨RX0, "wornBits", "(LBoatLeggers$Tunnel;)I"⟩
abbrev cX0_wornOf : ByteArray := prog_2_method_6_code
def yX0_wornOf : MethodName := ⟨RX0, "wornOf", "(LBoatLeggers$Tunnel;I)I"⟩
abbrev cX0_tiredTogether : ByteArray := prog_2_method_7_code
def yX0_tiredTogether : MethodName := ⟨RX0, "tiredTogether", "()I"⟩
abbrev cX0_minutesOn : ByteArray := prog_2_method_8_code
def yX0_minutesOn : MethodName := ⟨RX0, "minutesOn", "(LBoatLeggers$Tunnel;II)I"⟩
abbrev cX0_minutesToWalk : ByteArray := prog_2_method_9_code
def yX0_minutesToWalk : MethodName := ⟨RX0, "minutesToWalk", "(LBoatLeggers$Tunnel;I)I"⟩
abbrev cX0_walkOn : ByteArray := prog_2_method_10_code
def yX0_walkOn : MethodName := ⟨RX0, "walkOn", "(LBoatLeggers$Tunnel;II)V"⟩
abbrev cX0_tire : ByteArray := prog_2_method_11_code
def yX0_tire : MethodName := ⟨RX0, "tire", "(II)V"⟩
abbrev cX0_ease : ByteArray := prog_2_method_12_code
def yX0_ease : MethodName := ⟨RX0, "ease", "(I)V"⟩
def RX1 : String := "BoatLeggers$Planner"
def TX1 : u_T := fun k => match k with
  | 0 => ("BoatLeggers$Planner", "planned", "Z", false)
  | 1 => ("BoatLeggers$Planner", "minutes", "I", false)
  | 2 => ("BoatLeggers$Planner", "best", "[I", true)
  | 3 => ("BoatLeggers$Planner", "wornMayNot", "Z", true)
  | 4 => ("BoatLeggers$Planner", "row", "[I", true)
  | _ => ("BoatLeggers$Planner", "ahead", "[LBoatLeggers$Moment;", true)
def tyX1 : Nat → FieldType := fun k => match k with
  | 0 => .boolean
  | 1 => .int
  | 2 => .array .int
  | 3 => .boolean
  | 4 => .array .int
  | _ => .array (.object "BoatLeggers$Moment")
abbrev wsX10 : List Cond := u_ws RX1 TX1 6
theorem nmX1 : ∀ a, a < 6 → ∀ b, b < 6 → a ≠ b → (TX1 a).2.1 ≠ (TX1 b).2.1 := by decide +kernel
theorem tyX1_ok : ∀ k, k < 6 → parseFieldDescriptor (TX1 k).2.2.1 = some (tyX1 k) := by decide +kernel
abbrev cX1_init : ByteArray := prog_3_method_1_code
def yX1_init : MethodName := ⟨RX1, "<init>", "(Z)V"⟩
abbrev cX1_plan : ByteArray := prog_3_method_2_code
def yX1_plan : MethodName := ⟨RX1, "plan", "(LBoatLeggers$Tunnel;LBoatLeggers$Moment;)V"⟩
abbrev cX1_search : ByteArray := prog_3_method_3_code
def yX1_search : MethodName := ⟨RX1, "search", "(LBoatLeggers$Tunnel;I)V"⟩
abbrev cX1_mayBeQuicker : ByteArray := prog_3_method_4_code
def yX1_mayBeQuicker : MethodName := ⟨RX1, "mayBeQuicker", "(LBoatLeggers$Tunnel;II)Z"⟩
abbrev cX1_take : ByteArray := prog_3_method_5_code
def yX1_take : MethodName := ⟨RX1, "take", "(I)V"⟩
def RX2 : String := "BoatLeggers$Reader"
def TX2 : u_T := fun k => match k with
  | 0 => ("BoatLeggers$Reader", "size", "I", false)
  | 1 => ("BoatLeggers$Reader", "bytes", "[I", true)
  | 2 => ("BoatLeggers$Reader", "sort", "I", false)
  | 3 => ("BoatLeggers$Reader", "place", "I", false)
  | 4 => ("BoatLeggers$Reader", "value", "I", false)
  | 5 => ("BoatLeggers$Reader", "behind", "I", false)
  | 6 => ("BoatLeggers$Reader", "changeTold", "Z", false)
  | 7 => ("BoatLeggers$Reader", "hoursTold", "Z", false)
  | _ => ("BoatLeggers$Reader", "numbers", "[I", true)
def tyX2 : Nat → FieldType := fun k => match k with
  | 0 => .int
  | 1 => .array .int
  | 2 => .int
  | 3 => .int
  | 4 => .int
  | 5 => .int
  | 6 => .boolean
  | 7 => .boolean
  | _ => .array .int
abbrev wsX20 : List Cond := u_ws RX2 TX2 9
theorem nmX2 : ∀ a, a < 9 → ∀ b, b < 9 → a ≠ b → (TX2 a).2.1 ≠ (TX2 b).2.1 := by decide +kernel
theorem tyX2_ok : ∀ k, k < 9 → parseFieldDescriptor (TX2 k).2.2.1 = some (tyX2 k) := by decide +kernel
abbrev cX2_init : ByteArray := prog_4_method_1_code
def yX2_init : MethodName := ⟨RX2, "<init>", "()V"⟩
abbrev cX2_readInto : ByteArray := prog_4_method_2_code
def yX2_readInto : MethodName := ⟨RX2, "readInto", "(LBoatLeggers$Tunnel;)I"⟩
abbrev cX2_readItem : ByteArray := prog_4_method_3_code
def yX2_readItem : MethodName := ⟨RX2, "readItem", "(LBoatLeggers$Tunnel;)Z"⟩
abbrev cX2_mayBegin : ByteArray := prog_4_method_4_code
def yX2_mayBegin : MethodName := ⟨RX2, "mayBegin", "(LBoatLeggers$Tunnel;I)Z"⟩
abbrev cX2_boundsOf : ByteArray := prog_4_method_5_code
def yX2_boundsOf : MethodName := ⟨RX2, "boundsOf", "(I)[I"⟩
abbrev cX2_readNumbers : ByteArray := prog_4_method_6_code
def yX2_readNumbers : MethodName := ⟨RX2, "readNumbers", "([I)Z"⟩
abbrev cX2_tell : ByteArray := prog_4_method_7_code
def yX2_tell : MethodName := ⟨RX2, "tell", "(LBoatLeggers$Tunnel;I)V"⟩
abbrev cX2_nextToken : ByteArray := prog_4_method_8_code
def yX2_nextToken : MethodName := ⟨RX2, "nextToken", "()V"⟩
abbrev cX2_takeLetters : ByteArray := prog_4_method_9_code
def yX2_takeLetters : MethodName := ⟨RX2, "takeLetters", "()V"⟩
abbrev cX2_takeNumber : ByteArray := prog_4_method_10_code
def yX2_takeNumber : MethodName := ⟨RX2, "takeNumber", "()V"⟩
abbrev cX2_isLetter : ByteArray := prog_4_method_11_code
def yX2_isLetter : MethodName := ⟨RX2, "isLetter", "(I)Z"⟩
abbrev cX2_isDigit : ByteArray := prog_4_method_12_code
def yX2_isDigit : MethodName := ⟨RX2, "isDigit", "(I)Z"⟩
def RX3 : String := "BoatLeggers$Sightings"
def TX3 : u_T := fun k => match k with
  | 0 => ("BoatLeggers$Sightings", "size", "I", false)
  | 1 => ("BoatLeggers$Sightings", "counted", "Z", false)
  | 2 => ("BoatLeggers$Sightings", "rows", "I", false)
  | 3 => ("BoatLeggers$Sightings", "first", "[I", true)
  | 4 => ("BoatLeggers$Sightings", "sure", "[I", true)
  | 5 => ("BoatLeggers$Sightings", "stretch", "[I", true)
  | 6 => ("BoatLeggers$Sightings", "minute", "[I", true)
  | 7 => ("BoatLeggers$Sightings", "due", "[I", true)
  | 8 => ("BoatLeggers$Sightings", "lastDue", "I", false)
  | 9 => ("BoatLeggers$Sightings", "row", "[I", true)
  | _ => ("BoatLeggers$Sightings", "ahead", "[LBoatLeggers$Moment;", true)
def tyX3 : Nat → FieldType := fun k => match k with
  | 0 => .int
  | 1 => .boolean
  | 2 => .int
  | 3 => .array .int
  | 4 => .array .int
  | 5 => .array .int
  | 6 => .array .int
  | 7 => .array .int
  | 8 => .int
  | 9 => .array .int
  | _ => .array (.object "BoatLeggers$Moment")
abbrev wsX30 : List Cond := u_ws RX3 TX3 11
theorem nmX3 : ∀ a, a < 11 → ∀ b, b < 11 → a ≠ b → (TX3 a).2.1 ≠ (TX3 b).2.1 := by decide +kernel
theorem tyX3_ok : ∀ k, k < 11 → parseFieldDescriptor (TX3 k).2.2.1 = some (tyX3 k) := by decide +kernel
abbrev cX3_init : ByteArray := prog_5_method_1_code
def yX3_init : MethodName := ⟨RX3, "<init>", "()V"⟩
abbrev cX3_add : ByteArray := prog_5_method_2_code
def yX3_add : MethodName := ⟨RX3, "add", "(II)V"⟩
abbrev cX3_look : ByteArray := prog_5_method_3_code
def yX3_look : MethodName := ⟨RX3, "look", "(LBoatLeggers$Tunnel;)V"⟩
abbrev cX3_gatherDue : ByteArray := prog_5_method_4_code
def yX3_gatherDue : MethodName := ⟨RX3, "gatherDue", "()Z"⟩
abbrev cX3_search : ByteArray := prog_5_method_5_code
def yX3_search : MethodName := ⟨RX3, "search", "(LBoatLeggers$Tunnel;I)V"⟩
abbrev cX3_mayFit : ByteArray := prog_5_method_6_code
def yX3_mayFit : MethodName := ⟨RX3, "mayFit", "(LBoatLeggers$Tunnel;II)Z"⟩
abbrev cX3_addRows : ByteArray := prog_5_method_7_code
def yX3_addRows : MethodName := ⟨RX3, "addRows", "(LBoatLeggers$Tunnel;I)V"⟩
abbrev cX3_bitsOf : ByteArray := prog_5_method_8_code
def yX3_bitsOf : MethodName := ⟨RX3, "bitsOf", "(I)I"⟩
def RX4 : String := "BoatLeggers$Tunnel"
def TX4 : u_T := fun k => match k with
  | 0 => ("BoatLeggers$Tunnel", "walkers", "I", false)
  | 1 => ("BoatLeggers$Tunnel", "stretches", "I", false)
  | 2 => ("BoatLeggers$Tunnel", "change", "I", false)
  | 3 => ("BoatLeggers$Tunnel", "hours", "I", false)
  | 4 => ("BoatLeggers$Tunnel", "pairs", "I", false)
  | 5 => ("BoatLeggers$Tunnel", "reach", "[I", true)
  | 6 => ("BoatLeggers$Tunnel", "strength", "[I", true)
  | 7 => ("BoatLeggers$Tunnel", "length", "[I", true)
  | 8 => ("BoatLeggers$Tunnel", "breadth", "[I", true)
  | 9 => ("BoatLeggers$Tunnel", "slimy", "[I", true)
  | 10 => ("BoatLeggers$Tunnel", "shaft", "[I", true)
  | 11 => ("BoatLeggers$Tunnel", "pairAt", "[I", true)
  | 12 => ("BoatLeggers$Tunnel", "fewest", "[I", true)
  | _ => ("BoatLeggers$Tunnel", "most", "[I", true)
def tyX4 : Nat → FieldType := fun k => match k with
  | 0 => .int
  | 1 => .int
  | 2 => .int
  | 3 => .int
  | 4 => .int
  | 5 => .array .int
  | 6 => .array .int
  | 7 => .array .int
  | 8 => .array .int
  | 9 => .array .int
  | 10 => .array .int
  | 11 => .array .int
  | 12 => .array .int
  | _ => .array .int
abbrev wsX40 : List Cond := u_ws RX4 TX4 14
theorem nmX4 : ∀ a, a < 14 → ∀ b, b < 14 → a ≠ b → (TX4 a).2.1 ≠ (TX4 b).2.1 := by decide +kernel
theorem tyX4_ok : ∀ k, k < 14 → parseFieldDescriptor (TX4 k).2.2.1 = some (tyX4 k) := by decide +kernel
abbrev cX4_init : ByteArray := prog_6_method_1_code
def yX4_init : MethodName := ⟨RX4, "<init>", "()V"⟩
abbrev cX4_empty : ByteArray := prog_6_method_2_code
def yX4_empty : MethodName := ⟨RX4, "empty", "()V"⟩
abbrev cX4_addWalker : ByteArray := prog_6_method_3_code
def yX4_addWalker : MethodName := ⟨RX4, "addWalker", "(II)V"⟩
abbrev cX4_addStretch : ByteArray := prog_6_method_4_code
def yX4_addStretch : MethodName := ⟨RX4, "addStretch", "(IIII)V"⟩
abbrev cX4_prepare : ByteArray := prog_6_method_5_code
def yX4_prepare : MethodName := ⟨RX4, "prepare", "()V"⟩
abbrev cX4_boundMinutes : ByteArray := prog_6_method_6_code
def yX4_boundMinutes : MethodName := ⟨RX4, "boundMinutes", "(I)V"⟩
abbrev cX4_hasStretch : ByteArray := prog_6_method_7_code
def yX4_hasStretch : MethodName := ⟨RX4, "hasStretch", "(I)Z"⟩
abbrev cX4_hasPair : ByteArray := prog_6_method_8_code
def yX4_hasPair : MethodName := ⟨RX4, "hasPair", "(I)Z"⟩
abbrev cX4_unwornRate : ByteArray := prog_6_method_9_code
def yX4_unwornRate : MethodName := ⟨RX4, "unwornRate", "(II)I"⟩
abbrev cX4_furlongs : ByteArray := prog_6_method_10_code
def yX4_furlongs : MethodName := ⟨RX4, "furlongs", "(II)I"⟩
abbrev cX4_furlongsOf : ByteArray := prog_6_method_11_code
def yX4_furlongsOf : MethodName := ⟨RX4, "furlongsOf", "(I)I"⟩
abbrev cX4_slimyFrom : ByteArray := prog_6_method_12_code
def yX4_slimyFrom : MethodName := ⟨RX4, "slimyFrom", "(I)I"⟩
abbrev cX4_shafts : ByteArray := prog_6_method_13_code
def yX4_shafts : MethodName := ⟨RX4, "shafts", "()I"⟩
abbrev cX4_isFree : ByteArray := prog_6_method_14_code
def yX4_isFree : MethodName := ⟨RX4, "isFree", "(I)Z"⟩
abbrev cX4_freeMinutesLeft : ByteArray := prog_6_method_15_code
def yX4_freeMinutesLeft : MethodName := ⟨RX4, "freeMinutesLeft", "(I)I"⟩
def RX5 : String := "BoatLeggers$Voyage"
def TX5 : u_T := fun k => match k with
  | 0 => ("BoatLeggers$Voyage", "at", "LBoatLeggers$Moment;", true)
  | 1 => ("BoatLeggers$Voyage", "known", "I", false)
  | _ => ("BoatLeggers$Voyage", "past", "[LBoatLeggers$Moment;", true)
def tyX5 : Nat → FieldType := fun k => match k with
  | 0 => .object "BoatLeggers$Moment"
  | 1 => .int
  | _ => .array (.object "BoatLeggers$Moment")
abbrev wsX50 : List Cond := u_ws RX5 TX5 3
theorem nmX5 : ∀ a, a < 3 → ∀ b, b < 3 → a ≠ b → (TX5 a).2.1 ≠ (TX5 b).2.1 := by decide +kernel
theorem tyX5_ok : ∀ k, k < 3 → parseFieldDescriptor (TX5 k).2.2.1 = some (tyX5 k) := by decide +kernel
abbrev cX5_init : ByteArray := prog_7_method_1_code
def yX5_init : MethodName := ⟨RX5, "<init>", "()V"⟩
abbrev cX5_restart : ByteArray := prog_7_method_2_code
def yX5_restart : MethodName := ⟨RX5, "restart", "()V"⟩
abbrev cX5_copy : ByteArray := prog_7_method_3_code
def yX5_copy : MethodName := ⟨RX5, "copy", "(LBoatLeggers$Voyage;)V"⟩
abbrev cX5_remember : ByteArray := prog_7_method_4_code
def yX5_remember : MethodName := ⟨RX5, "remember", "()V"⟩
abbrev cX5_loseOldest : ByteArray := prog_7_method_5_code
def yX5_loseOldest : MethodName := ⟨RX5, "loseOldest", "()V"⟩
abbrev cX5_takeBack : ByteArray := prog_7_method_6_code
def yX5_takeBack : MethodName := ⟨RX5, "takeBack", "()V"⟩
def RX6 : String := "BoatLeggers"
def TX6 : u_T := fun k => match k with
  | 0 => ("BoatLeggers", "text", "LBoatLeggers$Reader;", true)
  | 1 => ("BoatLeggers", "told", "LBoatLeggers$Tunnel;", false)
  | 2 => ("BoatLeggers", "draft", "LBoatLeggers$Tunnel;", false)
  | 3 => ("BoatLeggers", "voyage", "LBoatLeggers$Voyage;", true)
  | 4 => ("BoatLeggers", "images", "[LBoatLeggers$Voyage;", true)
  | 5 => ("BoatLeggers", "kept", "[Z", true)
  | 6 => ("BoatLeggers", "seen", "LBoatLeggers$Sightings;", true)
  | 7 => ("BoatLeggers", "soonest", "LBoatLeggers$Planner;", true)
  | 8 => ("BoatLeggers", "unworn", "LBoatLeggers$Planner;", true)
  | 9 => ("BoatLeggers", "trial", "LBoatLeggers$Moment;", true)
  | _ => ("BoatLeggers", "traced", "J", false)
def tyX6 : Nat → FieldType := fun k => match k with
  | 0 => .object "BoatLeggers$Reader"
  | 1 => .object "BoatLeggers$Tunnel"
  | 2 => .object "BoatLeggers$Tunnel"
  | 3 => .object "BoatLeggers$Voyage"
  | 4 => .array (.object "BoatLeggers$Voyage")
  | 5 => .array .boolean
  | 6 => .object "BoatLeggers$Sightings"
  | 7 => .object "BoatLeggers$Planner"
  | 8 => .object "BoatLeggers$Planner"
  | 9 => .object "BoatLeggers$Moment"
  | _ => .long
abbrev wsX60 : List Cond := u_ws RX6 TX6 11
theorem nmX6 : ∀ a, a < 11 → ∀ b, b < 11 → a ≠ b → (TX6 a).2.1 ≠ (TX6 b).2.1 := by decide +kernel
theorem tyX6_ok : ∀ k, k < 11 → parseFieldDescriptor (TX6 k).2.2.1 = some (tyX6 k) := by decide +kernel
abbrev cX6_init : ByteArray := prog_1_method_1_code
def yX6_init : MethodName := ⟨RX6, "<init>", "()V"⟩
abbrev cX6_type : ByteArray := prog_1_method_2_code
def yX6_type : MethodName := ⟨RX6, "type", "(I)I"⟩
abbrev cX6_clear : ByteArray := prog_1_method_3_code
def yX6_clear : MethodName := ⟨RX6, "clear", "()I"⟩
abbrev cX6_tunnel : ByteArray := prog_1_method_4_code
def yX6_tunnel : MethodName := ⟨RX6, "tunnel", "()I"⟩
abbrev cX6_walker : ByteArray := prog_1_method_5_code
def yX6_walker : MethodName := ⟨RX6, "walker", "(II)I"⟩
abbrev cX6_stretch : ByteArray := prog_1_method_6_code
def yX6_stretch : MethodName := ⟨RX6, "stretch", "(II)I"⟩
abbrev cX6_takes : ByteArray := prog_1_method_7_code
def yX6_takes : MethodName := ⟨RX6, "takes", "(II)I"⟩
abbrev cX6_walks : ByteArray := prog_1_method_8_code
def yX6_walks : MethodName := ⟨RX6, "walks", "(I)I"⟩
abbrev cX6_backs : ByteArray := prog_1_method_9_code
def yX6_backs : MethodName := ⟨RX6, "backs", "()I"⟩
abbrev cX6_rests : ByteArray := prog_1_method_10_code
def yX6_rests : MethodName := ⟨RX6, "rests", "(I)I"⟩
abbrev cX6_undo : ByteArray := prog_1_method_11_code
def yX6_undo : MethodName := ⟨RX6, "undo", "()I"⟩
abbrev cX6_now : ByteArray := prog_1_method_12_code
def yX6_now : MethodName := ⟨RX6, "now", "(I)I"⟩
abbrev cX6_moved : ByteArray := prog_1_method_13_code
def yX6_moved : MethodName := ⟨RX6, "moved", "()V"⟩
abbrev cX6_best : ByteArray := prog_1_method_14_code
def yX6_best : MethodName := ⟨RX6, "best", "(I)I"⟩
abbrev cX6_fresh : ByteArray := prog_1_method_15_code
def yX6_fresh : MethodName := ⟨RX6, "fresh", "(I)I"⟩
abbrev cX6_planned : ByteArray := prog_1_method_16_code
def yX6_planned : MethodName := ⟨RX6, "planned", "(LBoatLeggers$Planner;I)I"⟩
abbrev cX6_hired : ByteArray := prog_1_method_17_code
def yX6_hired : MethodName := ⟨RX6, "hired", "(III)I"⟩
abbrev cX6_minutesWithHired : ByteArray := prog_1_method_18_code
def yX6_minutesWithHired : MethodName := ⟨RX6, "minutesWithHired", "(II)I"⟩
abbrev cX6_goIn : ByteArray := prog_1_method_19_code
def yX6_goIn : MethodName := ⟨RX6, "goIn", "(I)I"⟩
abbrev cX6_minutesThrough : ByteArray := prog_1_method_20_code
def yX6_minutesThrough : MethodName := ⟨RX6, "minutesThrough", "(I)I"⟩
abbrev cX6_meets : ByteArray := prog_1_method_21_code
def yX6_meets : MethodName := ⟨RX6, "meets", "(IIII)I"⟩
abbrev cX6_meetingStretch : ByteArray := prog_1_method_22_code
def yX6_meetingStretch : MethodName := ⟨RX6, "meetingStretch", "(III)I"⟩
abbrev cX6_odds : ByteArray := prog_1_method_23_code
def yX6_odds : MethodName := ⟨RX6, "odds", "(IIII)I"⟩
abbrev cX6_power : ByteArray := prog_1_method_24_code
def yX6_power : MethodName := ⟨RX6, "power", "(II)I"⟩
abbrev cX6_commonDivisor : ByteArray := prog_1_method_25_code
def yX6_commonDivisor : MethodName := ⟨RX6, "commonDivisor", "(II)I"⟩
abbrev cX6_saw : ByteArray := prog_1_method_26_code
def yX6_saw : MethodName := ⟨RX6, "saw", "(II)I"⟩
abbrev cX6_forget : ByteArray := prog_1_method_27_code
def yX6_forget : MethodName := ⟨RX6, "forget", "()I"⟩
abbrev cX6_fits : ByteArray := prog_1_method_28_code
def yX6_fits : MethodName := ⟨RX6, "fits", "(I)I"⟩
abbrev cX6_surely : ByteArray := prog_1_method_29_code
def yX6_surely : MethodName := ⟨RX6, "surely", "(I)I"⟩
abbrev cX6_mark : ByteArray := prog_1_method_30_code
def yX6_mark : MethodName := ⟨RX6, "mark", "(II)I"⟩
abbrev cX6_asStep : ByteArray := prog_1_method_31_code
def yX6_asStep : MethodName := ⟨RX6, "asStep", "(I)I"⟩
abbrev cX6_asFirm : ByteArray := prog_1_method_32_code
def yX6_asFirm : MethodName := ⟨RX6, "asFirm", "(I)I"⟩
abbrev cX6_asSlimy : ByteArray := prog_1_method_33_code
def yX6_asSlimy : MethodName := ⟨RX6, "asSlimy", "(I)I"⟩
abbrev cX6_asStretched : ByteArray := prog_1_method_34_code
def yX6_asStretched : MethodName := ⟨RX6, "asStretched", "(I)I"⟩
abbrev cX6_asCramped : ByteArray := prog_1_method_35_code
def yX6_asCramped : MethodName := ⟨RX6, "asCramped", "(I)I"⟩
abbrev cX6_asBlind : ByteArray := prog_1_method_36_code
def yX6_asBlind : MethodName := ⟨RX6, "asBlind", "(I)I"⟩
abbrev cX6_keep : ByteArray := prog_1_method_37_code
def yX6_keep : MethodName := ⟨RX6, "keep", "(I)I"⟩
abbrev cX6_back : ByteArray := prog_1_method_38_code
def yX6_back : MethodName := ⟨RX6, "back", "(I)I"⟩
abbrev cX6_count : ByteArray := prog_1_method_39_code
def yX6_count : MethodName := ⟨RX6, "count", "(I)I"⟩
abbrev cX6_trace : ByteArray := prog_1_method_40_code
def yX6_trace : MethodName := ⟨RX6, "trace", "()J"⟩
def RX7 : String := "BoatLeggersModel"
def TX7 : u_T := fun k => match k with
  | 0 => ("BoatLeggersModel", "walkers", "I", false)
  | 1 => ("BoatLeggersModel", "walker", "[I", true)
  | 2 => ("BoatLeggersModel", "stretches", "I", false)
  | 3 => ("BoatLeggersModel", "stretch", "[I", true)
  | 4 => ("BoatLeggersModel", "change", "I", false)
  | 5 => ("BoatLeggersModel", "hours", "I", false)
  | 6 => ("BoatLeggersModel", "st", "[I", true)
  | 7 => ("BoatLeggersModel", "was", "[I", true)
  | 8 => ("BoatLeggersModel", "known", "I", false)
  | 9 => ("BoatLeggersModel", "images", "[I", true)
  | 10 => ("BoatLeggersModel", "isKept", "[Z", true)
  | 11 => ("BoatLeggersModel", "seens", "I", false)
  | 12 => ("BoatLeggersModel", "seen", "[I", true)
  | 13 => ("BoatLeggersModel", "trace", "J", false)
  | 14 => ("BoatLeggersModel", "text", "[I", true)
  | 15 => ("BoatLeggersModel", "texted", "I", false)
  | 16 => ("BoatLeggersModel", "cursor", "I", false)
  | 17 => ("BoatLeggersModel", "start", "I", false)
  | 18 => ("BoatLeggersModel", "token", "I", false)
  | 19 => ("BoatLeggersModel", "number", "I", false)
  | 20 => ("BoatLeggersModel", "isWrong", "Z", false)
  | 21 => ("BoatLeggersModel", "saidWalkers", "I", false)
  | 22 => ("BoatLeggersModel", "saidWalker", "[I", true)
  | 23 => ("BoatLeggersModel", "saidStretches", "I", false)
  | 24 => ("BoatLeggersModel", "saidStretch", "[I", true)
  | 25 => ("BoatLeggersModel", "saidOnce", "[I", true)
  | 26 => ("BoatLeggersModel", "tired", "[I", true)
  | 27 => ("BoatLeggersModel", "minutes", "[I", true)
  | 28 => ("BoatLeggersModel", "pairs", "[I", true)
  | 29 => ("BoatLeggersModel", "choice", "[I", true)
  | 30 => ("BoatLeggersModel", "found", "[I", true)
  | 31 => ("BoatLeggersModel", "all", "[I", true)
  | 32 => ("BoatLeggersModel", "rows", "I", false)
  | _ => ("BoatLeggersModel", "least", "I", false)
def tyX7 : Nat → FieldType := fun k => match k with
  | 0 => .int
  | 1 => .array .int
  | 2 => .int
  | 3 => .array .int
  | 4 => .int
  | 5 => .int
  | 6 => .array .int
  | 7 => .array .int
  | 8 => .int
  | 9 => .array .int
  | 10 => .array .boolean
  | 11 => .int
  | 12 => .array .int
  | 13 => .long
  | 14 => .array .int
  | 15 => .int
  | 16 => .int
  | 17 => .int
  | 18 => .int
  | 19 => .int
  | 20 => .boolean
  | 21 => .int
  | 22 => .array .int
  | 23 => .int
  | 24 => .array .int
  | 25 => .array .int
  | 26 => .array .int
  | 27 => .array .int
  | 28 => .array .int
  | 29 => .array .int
  | 30 => .array .int
  | 31 => .array .int
  | 32 => .int
  | _ => .int
abbrev wsX70 : List Cond := u_ws RX7 TX7 34
theorem nmX7 : ∀ a, a < 34 → ∀ b, b < 34 → a ≠ b → (TX7 a).2.1 ≠ (TX7 b).2.1 := by decide +kernel
theorem tyX7_ok : ∀ k, k < 34 → parseFieldDescriptor (TX7 k).2.2.1 = some (tyX7 k) := by decide +kernel
abbrev cX7_init : ByteArray := prog_9_method_1_code
def yX7_init : MethodName := ⟨RX7, "<init>", "()V"⟩
abbrev cX7_begins : ByteArray := prog_9_method_3_code
def yX7_begins : MethodName := ⟨RX7, "begins", "()V"⟩
abbrev cX7_in : ByteArray := prog_9_method_4_code
def yX7_in : MethodName := ⟨RX7, "in", "(III)Z"⟩
abbrev cX7_has : ByteArray := prog_9_method_5_code
def yX7_has : MethodName := ⟨RX7, "has", "(II)Z"⟩
abbrev cX7_isWalker : ByteArray := prog_9_method_6_code
def yX7_isWalker : MethodName := ⟨RX7, "isWalker", "(I)Z"⟩
abbrev cX7_isStretch : ByteArray := prog_9_method_7_code
def yX7_isStretch : MethodName := ⟨RX7, "isStretch", "(I)Z"⟩
abbrev cX7_isPair : ByteArray := prog_9_method_8_code
def yX7_isPair : MethodName := ⟨RX7, "isPair", "(I)Z"⟩
abbrev cX7_type : ByteArray := prog_9_method_9_code
def yX7_type : MethodName := ⟨RX7, "type", "(I)I"⟩
abbrev cX7_clear : ByteArray := prog_9_method_10_code
def yX7_clear : MethodName := ⟨RX7, "clear", "()I"⟩
abbrev cX7_byteAt : ByteArray := prog_9_method_11_code
def yX7_byteAt : MethodName := ⟨RX7, "byteAt", "(I)I"⟩
abbrev cX7_isSmall : ByteArray := prog_9_method_12_code
def yX7_isSmall : MethodName := ⟨RX7, "isSmall", "(I)Z"⟩
abbrev cX7_isFigure : ByteArray := prog_9_method_13_code
def yX7_isFigure : MethodName := ⟨RX7, "isFigure", "(I)Z"⟩
abbrev cX7_next : ByteArray := prog_9_method_14_code
def yX7_next : MethodName := ⟨RX7, "next", "()V"⟩
abbrev cX7_reads : ByteArray := prog_9_method_15_code
def yX7_reads : MethodName := ⟨RX7, "reads", "([IIII)V"⟩
abbrev cX7_readWalker : ByteArray := prog_9_method_16_code
def yX7_readWalker : MethodName := ⟨RX7, "readWalker", "()V"⟩
abbrev cX7_readStretch : ByteArray := prog_9_method_17_code
def yX7_readStretch : MethodName := ⟨RX7, "readStretch", "()V"⟩
abbrev cX7_readItem : ByteArray := prog_9_method_18_code
def yX7_readItem : MethodName := ⟨RX7, "readItem", "()V"⟩
abbrev cX7_tunnel : ByteArray := prog_9_method_19_code
def yX7_tunnel : MethodName := ⟨RX7, "tunnel", "()I"⟩
abbrev cX7_isWorn : ByteArray := prog_9_method_20_code
def yX7_isWorn : MethodName := ⟨RX7, "isWorn", "(II)Z"⟩
abbrev cX7_fromNow : ByteArray := prog_9_method_21_code
def yX7_fromNow : MethodName := ⟨RX7, "fromNow", "()V"⟩
abbrev cX7_takesAt : ByteArray := prog_9_method_22_code
def yX7_takesAt : MethodName := ⟨RX7, "takesAt", "(III)I"⟩
abbrev cX7_tires : ByteArray := prog_9_method_23_code
def yX7_tires : MethodName := ⟨RX7, "tires", "(III)V"⟩
abbrev cX7_walksOn : ByteArray := prog_9_method_24_code
def yX7_walksOn : MethodName := ⟨RX7, "walksOn", "(III)V"⟩
abbrev cX7_walksAll : ByteArray := prog_9_method_25_code
def yX7_walksAll : MethodName := ⟨RX7, "walksAll", "(I)I"⟩
abbrev cX7_walker : ByteArray := prog_9_method_26_code
def yX7_walker : MethodName := ⟨RX7, "walker", "(II)I"⟩
abbrev cX7_stretch : ByteArray := prog_9_method_27_code
def yX7_stretch : MethodName := ⟨RX7, "stretch", "(II)I"⟩
abbrev cX7_takes : ByteArray := prog_9_method_28_code
def yX7_takes : MethodName := ⟨RX7, "takes", "(II)I"⟩
abbrev cX7_remembers : ByteArray := prog_9_method_29_code
def yX7_remembers : MethodName := ⟨RX7, "remembers", "()V"⟩
abbrev cX7_becomes : ByteArray := prog_9_method_30_code
def yX7_becomes : MethodName := ⟨RX7, "becomes", "(III)V"⟩
abbrev cX7_walks : ByteArray := prog_9_method_31_code
def yX7_walks : MethodName := ⟨RX7, "walks", "(I)I"⟩
abbrev cX7_backs : ByteArray := prog_9_method_32_code
def yX7_backs : MethodName := ⟨RX7, "backs", "()I"⟩
abbrev cX7_rests : ByteArray := prog_9_method_33_code
def yX7_rests : MethodName := ⟨RX7, "rests", "(I)I"⟩
abbrev cX7_undo : ByteArray := prog_9_method_34_code
def yX7_undo : MethodName := ⟨RX7, "undo", "()I"⟩
abbrev cX7_isFree : ByteArray := prog_9_method_35_code
def yX7_isFree : MethodName := ⟨RX7, "isFree", "(I)Z"⟩
abbrev cX7_now : ByteArray := prog_9_method_36_code
def yX7_now : MethodName := ⟨RX7, "now", "(I)I"⟩
abbrev cX7_pairBy : ByteArray := prog_9_method_37_code
def yX7_pairBy : MethodName := ⟨RX7, "pairBy", "(I)I"⟩
abbrev cX7_isAsSeen : ByteArray := prog_9_method_38_code
def yX7_isAsSeen : MethodName := ⟨RX7, "isAsSeen", "(II)Z"⟩
abbrev cX7_goesDown : ByteArray := prog_9_method_39_code
def yX7_goesDown : MethodName := ⟨RX7, "goesDown", "(IIII)Z"⟩
abbrev cX7_finds : ByteArray := prog_9_method_40_code
def yX7_finds : MethodName := ⟨RX7, "finds", "(II)V"⟩
abbrev cX7_search : ByteArray := prog_9_method_41_code
def yX7_search : MethodName := ⟨RX7, "search", "(II)V"⟩
abbrev cX7_told : ByteArray := prog_9_method_42_code
def yX7_told : MethodName := ⟨RX7, "told", "(II)I"⟩
abbrev cX7_best : ByteArray := prog_9_method_43_code
def yX7_best : MethodName := ⟨RX7, "best", "(I)I"⟩
abbrev cX7_fresh : ByteArray := prog_9_method_44_code
def yX7_fresh : MethodName := ⟨RX7, "fresh", "(I)I"⟩
abbrev cX7_hired : ByteArray := prog_9_method_45_code
def yX7_hired : MethodName := ⟨RX7, "hired", "(III)I"⟩
abbrev cX7_penceOf : ByteArray := prog_9_method_46_code
def yX7_penceOf : MethodName := ⟨RX7, "penceOf", "(I)I"⟩
abbrev cX7_minutesBy : ByteArray := prog_9_method_47_code
def yX7_minutesBy : MethodName := ⟨RX7, "minutesBy", "(II)I"⟩
abbrev cX7_goIn : ByteArray := prog_9_method_48_code
def yX7_goIn : MethodName := ⟨RX7, "goIn", "(I)I"⟩
abbrev cX7_meets : ByteArray := prog_9_method_49_code
def yX7_meets : MethodName := ⟨RX7, "meets", "(IIII)I"⟩
abbrev cX7_odds : ByteArray := prog_9_method_50_code
def yX7_odds : MethodName := ⟨RX7, "odds", "(IIII)I"⟩
abbrev cX7_saw : ByteArray := prog_9_method_51_code
def yX7_saw : MethodName := ⟨RX7, "saw", "(II)I"⟩
abbrev cX7_forget : ByteArray := prog_9_method_52_code
def yX7_forget : MethodName := ⟨RX7, "forget", "()I"⟩
abbrev cX7_findFits : ByteArray := prog_9_method_53_code
def yX7_findFits : MethodName := ⟨RX7, "findFits", "()V"⟩
abbrev cX7_fits : ByteArray := prog_9_method_54_code
def yX7_fits : MethodName := ⟨RX7, "fits", "(I)I"⟩
abbrev cX7_surely : ByteArray := prog_9_method_55_code
def yX7_surely : MethodName := ⟨RX7, "surely", "(I)I"⟩
abbrev cX7_stepMark : ByteArray := prog_9_method_56_code
def yX7_stepMark : MethodName := ⟨RX7, "stepMark", "(I)I"⟩
abbrev cX7_firmMark : ByteArray := prog_9_method_57_code
def yX7_firmMark : MethodName := ⟨RX7, "firmMark", "(I)I"⟩
abbrev cX7_slimyMark : ByteArray := prog_9_method_58_code
def yX7_slimyMark : MethodName := ⟨RX7, "slimyMark", "(I)I"⟩
abbrev cX7_shafts : ByteArray := prog_9_method_59_code
def yX7_shafts : MethodName := ⟨RX7, "shafts", "()I"⟩
abbrev cX7_mark : ByteArray := prog_9_method_60_code
def yX7_mark : MethodName := ⟨RX7, "mark", "(II)I"⟩
abbrev cX7_keep : ByteArray := prog_9_method_61_code
def yX7_keep : MethodName := ⟨RX7, "keep", "(I)I"⟩
abbrev cX7_back : ByteArray := prog_9_method_62_code
def yX7_back : MethodName := ⟨RX7, "back", "(I)I"⟩
abbrev cX7_count : ByteArray := prog_9_method_63_code
def yX7_count : MethodName := ⟨RX7, "count", "(I)I"⟩
abbrev cX7_trace : ByteArray := prog_9_method_64_code
def yX7_trace : MethodName := ⟨RX7, "trace", "()J"⟩
def RJ9 : String := "java/lang/Math"
def TJ9 : u_T := fun k => match k with
  | _ => ("", "", "", false)
def tyJ9 : Nat → FieldType := fun k => match k with
  | _ => .int
abbrev wsJ90 : List Cond := u_ws RJ9 TJ9 0
theorem nmJ9 : ∀ a, a < 0 → ∀ b, b < 0 → a ≠ b → (TJ9 a).2.1 ≠ (TJ9 b).2.1 := by decide +kernel
theorem tyJ9_ok : ∀ k, k < 0 → parseFieldDescriptor (TJ9 k).2.2.1 = some (tyJ9 k) := by decide +kernel
abbrev cJ9_max_7cf53 : ByteArray := prog_10_method_65_code
def yJ9_max_7cf53 : MethodName := ⟨RJ9, "max", "(II)I"⟩
abbrev cJ9_min_7cf53 : ByteArray := prog_10_method_69_code
def yJ9_min_7cf53 : MethodName := ⟨RJ9, "min", "(II)I"⟩
def RL : String := "BoatLeggersLaw"
abbrev cL_law : ByteArray := code
def yL_law : MethodName := ⟨RL, "law", "([I)Z"⟩
def wsJ9_max_7cf53 : List Cond := .code yJ9_max_7cf53 cJ9_max_7cf53 2 (some .int) :: ([])
def wsJ9_min_7cf53 : List Cond := .code yJ9_min_7cf53 cJ9_min_7cf53 2 (some .int) :: ([])
abbrev vwCl : List vw_C := [(RX0, TX0, 4), (RX1, TX1, 6), (RX2, TX2, 9), (RX3, TX3, 11), (RX4, TX4, 14), (RX5, TX5, 3), (RX6, TX6, 11), (RX7, TX7, 34)]

theorem inX0 : ∀ w ∈ wsX00, w ∈ lw_tbl := by decide +kernel
theorem inX1 : ∀ w ∈ wsX10, w ∈ lw_tbl := by decide +kernel
theorem inX2 : ∀ w ∈ wsX20, w ∈ lw_tbl := by decide +kernel
theorem inX3 : ∀ w ∈ wsX30, w ∈ lw_tbl := by decide +kernel
theorem inX4 : ∀ w ∈ wsX40, w ∈ lw_tbl := by decide +kernel
theorem inX5 : ∀ w ∈ wsX50, w ∈ lw_tbl := by decide +kernel
theorem inX6 : ∀ w ∈ wsX60, w ∈ lw_tbl := by decide +kernel
theorem inX7 : ∀ w ∈ wsX70, w ∈ lw_tbl := by decide +kernel
end
section
theorem dX0_init_0 : decode cX0_init 0 = .ok (.aload_n 0, 1) := by decide +kernel
theorem dX0_init_1 : decode cX0_init 1 = .ok (.invokespecial 3, 3) := by decide +kernel
theorem dX0_init_4 : decode cX0_init 4 = .ok (.aload_n 0, 1) := by decide +kernel
theorem dX0_init_5 : decode cX0_init 5 = .ok (.bipush (-9), 2) := by decide +kernel
theorem dX0_init_7 : decode cX0_init 7 = .ok (.putfield 9, 3) := by decide +kernel
theorem dX0_init_10 : decode cX0_init 10 = .ok (.aload_n 0, 1) := by decide +kernel
theorem dX0_init_11 : decode cX0_init 11 = .ok (.iconst 4, 1) := by decide +kernel
theorem dX0_init_12 : decode cX0_init 12 = .ok (.newarray .int, 2) := by decide +kernel
theorem dX0_init_14 : decode cX0_init 14 = .ok (.putfield 15, 3) := by decide +kernel
theorem dX0_init_17 : decode cX0_init 17 = .ok (.return_, 1) := by decide +kernel
theorem dX0_begin_0 : decode cX0_begin 0 = .ok (.aload_n 0, 1) := by decide +kernel
theorem dX0_begin_1 : decode cX0_begin 1 = .ok (.iconst 0, 1) := by decide +kernel
theorem dX0_begin_2 : decode cX0_begin 2 = .ok (.putfield 19, 3) := by decide +kernel
theorem dX0_begin_5 : decode cX0_begin 5 = .ok (.aload_n 0, 1) := by decide +kernel
theorem dX0_begin_6 : decode cX0_begin 6 = .ok (.iconst 0, 1) := by decide +kernel
theorem dX0_begin_7 : decode cX0_begin 7 = .ok (.putfield 22, 3) := by decide +kernel
theorem dX0_begin_10 : decode cX0_begin 10 = .ok (.aload_n 0, 1) := by decide +kernel
theorem dX0_begin_11 : decode cX0_begin 11 = .ok (.bipush (-9), 2) := by decide +kernel
theorem dX0_begin_13 : decode cX0_begin 13 = .ok (.putfield 9, 3) := by decide +kernel
theorem dX0_begin_16 : decode cX0_begin 16 = .ok (.iconst 0, 1) := by decide +kernel
theorem dX0_begin_17 : decode cX0_begin 17 = .ok (.istore_n 1, 1) := by decide +kernel
theorem dX0_begin_18 : decode cX0_begin 18 = .ok (.iload_n 1, 1) := by decide +kernel
theorem dX0_begin_19 : decode cX0_begin 19 = .ok (.iconst 4, 1) := by decide +kernel
theorem dX0_begin_20 : decode cX0_begin 20 = .ok (.if_icmp .ge 16, 3) := by decide +kernel
theorem dX0_begin_23 : decode cX0_begin 23 = .ok (.aload_n 0, 1) := by decide +kernel
theorem dX0_begin_24 : decode cX0_begin 24 = .ok (.getfield 15, 3) := by decide +kernel
theorem dX0_begin_27 : decode cX0_begin 27 = .ok (.iload_n 1, 1) := by decide +kernel
theorem dX0_begin_28 : decode cX0_begin 28 = .ok (.iconst 0, 1) := by decide +kernel
theorem dX0_begin_29 : decode cX0_begin 29 = .ok (.iastore, 1) := by decide +kernel
theorem dX0_begin_30 : decode cX0_begin 30 = .ok (.iinc 1 1, 3) := by decide +kernel
theorem dX0_begin_33 : decode cX0_begin 33 = .ok (.goto (-15), 3) := by decide +kernel
theorem dX0_begin_36 : decode cX0_begin 36 = .ok (.return_, 1) := by decide +kernel
theorem dX0_copy_0 : decode cX0_copy 0 = .ok (.aload_n 0, 1) := by decide +kernel
theorem dX0_copy_1 : decode cX0_copy 1 = .ok (.aload_n 1, 1) := by decide +kernel
theorem dX0_copy_2 : decode cX0_copy 2 = .ok (.getfield 19, 3) := by decide +kernel
theorem dX0_copy_5 : decode cX0_copy 5 = .ok (.putfield 19, 3) := by decide +kernel
theorem dX0_copy_8 : decode cX0_copy 8 = .ok (.aload_n 0, 1) := by decide +kernel
theorem dX0_copy_9 : decode cX0_copy 9 = .ok (.aload_n 1, 1) := by decide +kernel
theorem dX0_copy_10 : decode cX0_copy 10 = .ok (.getfield 22, 3) := by decide +kernel
theorem dX0_copy_13 : decode cX0_copy 13 = .ok (.putfield 22, 3) := by decide +kernel
theorem dX0_copy_16 : decode cX0_copy 16 = .ok (.aload_n 0, 1) := by decide +kernel
theorem dX0_copy_17 : decode cX0_copy 17 = .ok (.aload_n 1, 1) := by decide +kernel
theorem dX0_copy_18 : decode cX0_copy 18 = .ok (.getfield 9, 3) := by decide +kernel
theorem dX0_copy_21 : decode cX0_copy 21 = .ok (.putfield 9, 3) := by decide +kernel
theorem dX0_copy_24 : decode cX0_copy 24 = .ok (.iconst 0, 1) := by decide +kernel
theorem dX0_copy_25 : decode cX0_copy 25 = .ok (.istore_n 2, 1) := by decide +kernel
theorem dX0_copy_26 : decode cX0_copy 26 = .ok (.iload_n 2, 1) := by decide +kernel
theorem dX0_copy_27 : decode cX0_copy 27 = .ok (.iconst 4, 1) := by decide +kernel
theorem dX0_copy_28 : decode cX0_copy 28 = .ok (.if_icmp .ge 21, 3) := by decide +kernel
theorem dX0_copy_31 : decode cX0_copy 31 = .ok (.aload_n 0, 1) := by decide +kernel
theorem dX0_copy_32 : decode cX0_copy 32 = .ok (.getfield 15, 3) := by decide +kernel
theorem dX0_copy_35 : decode cX0_copy 35 = .ok (.iload_n 2, 1) := by decide +kernel
theorem dX0_copy_36 : decode cX0_copy 36 = .ok (.aload_n 1, 1) := by decide +kernel
theorem dX0_copy_37 : decode cX0_copy 37 = .ok (.getfield 15, 3) := by decide +kernel
theorem dX0_copy_40 : decode cX0_copy 40 = .ok (.iload_n 2, 1) := by decide +kernel
theorem dX0_copy_41 : decode cX0_copy 41 = .ok (.iaload, 1) := by decide +kernel
theorem dX0_copy_42 : decode cX0_copy 42 = .ok (.iastore, 1) := by decide +kernel
theorem dX0_copy_43 : decode cX0_copy 43 = .ok (.iinc 2 1, 3) := by decide +kernel
theorem dX0_copy_46 : decode cX0_copy 46 = .ok (.goto (-20), 3) := by decide +kernel
theorem dX0_copy_49 : decode cX0_copy 49 = .ok (.return_, 1) := by decide +kernel
theorem dX0_isWorn_0 : decode cX0_isWorn 0 = .ok (.aload_n 0, 1) := by decide +kernel
theorem dX0_isWorn_1 : decode cX0_isWorn 1 = .ok (.getfield 15, 3) := by decide +kernel
theorem dX0_isWorn_4 : decode cX0_isWorn 4 = .ok (.iload_n 2, 1) := by decide +kernel
theorem dX0_isWorn_5 : decode cX0_isWorn 5 = .ok (.iaload, 1) := by decide +kernel
theorem dX0_isWorn_6 : decode cX0_isWorn 6 = .ok (.aload_n 1, 1) := by decide +kernel
theorem dX0_isWorn_7 : decode cX0_isWorn 7 = .ok (.getfield 25, 3) := by decide +kernel
theorem dX0_isWorn_10 : decode cX0_isWorn 10 = .ok (.iload_n 2, 1) := by decide +kernel
theorem dX0_isWorn_11 : decode cX0_isWorn 11 = .ok (.iaload, 1) := by decide +kernel
theorem dX0_isWorn_12 : decode cX0_isWorn 12 = .ok (.if_icmp .le 7, 3) := by decide +kernel
theorem dX0_isWorn_15 : decode cX0_isWorn 15 = .ok (.iconst 1, 1) := by decide +kernel
theorem dX0_isWorn_16 : decode cX0_isWorn 16 = .ok (.goto 4, 3) := by decide +kernel
theorem dX0_isWorn_19 : decode cX0_isWorn 19 = .ok (.iconst 0, 1) := by decide +kernel
theorem dX0_isWorn_20 : decode cX0_isWorn 20 = .ok (.ireturn, 1) := by decide +kernel
theorem dX0_wornBits_0 : decode cX0_wornBits 0 = .ok (.iconst 0, 1) := by decide +kernel
theorem dX0_wornBits_1 : decode cX0_wornBits 1 = .ok (.istore_n 2, 1) := by decide +kernel
theorem dX0_wornBits_2 : decode cX0_wornBits 2 = .ok (.iconst 0, 1) := by decide +kernel
theorem dX0_wornBits_3 : decode cX0_wornBits 3 = .ok (.istore_n 3, 1) := by decide +kernel
theorem dX0_wornBits_4 : decode cX0_wornBits 4 = .ok (.iload_n 3, 1) := by decide +kernel
theorem dX0_wornBits_5 : decode cX0_wornBits 5 = .ok (.aload_n 1, 1) := by decide +kernel
theorem dX0_wornBits_6 : decode cX0_wornBits 6 = .ok (.getfield 30, 3) := by decide +kernel
theorem dX0_wornBits_9 : decode cX0_wornBits 9 = .ok (.if_icmp .ge 24, 3) := by decide +kernel
theorem dX0_wornBits_12 : decode cX0_wornBits 12 = .ok (.aload_n 0, 1) := by decide +kernel
theorem dX0_wornBits_13 : decode cX0_wornBits 13 = .ok (.aload_n 1, 1) := by decide +kernel
theorem dX0_wornBits_14 : decode cX0_wornBits 14 = .ok (.iload_n 3, 1) := by decide +kernel
theorem dX0_wornBits_15 : decode cX0_wornBits 15 = .ok (.invokevirtual 33, 3) := by decide +kernel
theorem dX0_wornBits_18 : decode cX0_wornBits 18 = .ok (.ifCond .eq 9, 3) := by decide +kernel
theorem dX0_wornBits_21 : decode cX0_wornBits 21 = .ok (.iload_n 2, 1) := by decide +kernel
theorem dX0_wornBits_22 : decode cX0_wornBits 22 = .ok (.iconst 1, 1) := by decide +kernel
theorem dX0_wornBits_23 : decode cX0_wornBits 23 = .ok (.iload_n 3, 1) := by decide +kernel
theorem dX0_wornBits_24 : decode cX0_wornBits 24 = .ok (.ishl, 1) := by decide +kernel
theorem dX0_wornBits_25 : decode cX0_wornBits 25 = .ok (.ior, 1) := by decide +kernel
theorem dX0_wornBits_26 : decode cX0_wornBits 26 = .ok (.istore_n 2, 1) := by decide +kernel
theorem dX0_wornBits_27 : decode cX0_wornBits 27 = .ok (.iinc 3 1, 3) := by decide +kernel
theorem dX0_wornBits_30 : decode cX0_wornBits 30 = .ok (.goto (-26), 3) := by decide +kernel
theorem dX0_wornBits_33 : decode cX0_wornBits 33 = .ok (.iload_n 2, 1) := by decide +kernel
theorem dX0_wornBits_34 : decode cX0_wornBits 34 = .ok (.ireturn, 1) := by decide +kernel
theorem dX0_wornOf_0 : decode cX0_wornOf 0 = .ok (.iload_n 2, 1) := by decide +kernel
theorem dX0_wornOf_1 : decode cX0_wornOf 1 = .ok (.bipush 10, 2) := by decide +kernel
theorem dX0_wornOf_3 : decode cX0_wornOf 3 = .ok (.idiv, 1) := by decide +kernel
theorem dX0_wornOf_4 : decode cX0_wornOf 4 = .ok (.istore_n 3, 1) := by decide +kernel
theorem dX0_wornOf_5 : decode cX0_wornOf 5 = .ok (.iload_n 2, 1) := by decide +kernel
theorem dX0_wornOf_6 : decode cX0_wornOf 6 = .ok (.bipush 10, 2) := by decide +kernel
theorem dX0_wornOf_8 : decode cX0_wornOf 8 = .ok (.irem, 1) := by decide +kernel
theorem dX0_wornOf_9 : decode cX0_wornOf 9 = .ok (.istore 4, 2) := by decide +kernel
theorem dX0_wornOf_11 : decode cX0_wornOf 11 = .ok (.aload_n 0, 1) := by decide +kernel
theorem dX0_wornOf_12 : decode cX0_wornOf 12 = .ok (.getfield 15, 3) := by decide +kernel
theorem dX0_wornOf_15 : decode cX0_wornOf 15 = .ok (.iload_n 3, 1) := by decide +kernel
theorem dX0_wornOf_16 : decode cX0_wornOf 16 = .ok (.iaload, 1) := by decide +kernel
theorem dX0_wornOf_17 : decode cX0_wornOf 17 = .ok (.aload_n 1, 1) := by decide +kernel
theorem dX0_wornOf_18 : decode cX0_wornOf 18 = .ok (.getfield 25, 3) := by decide +kernel
theorem dX0_wornOf_21 : decode cX0_wornOf 21 = .ok (.iload_n 3, 1) := by decide +kernel
theorem dX0_wornOf_22 : decode cX0_wornOf 22 = .ok (.iaload, 1) := by decide +kernel
theorem dX0_wornOf_23 : decode cX0_wornOf 23 = .ok (.if_icmp .le 7, 3) := by decide +kernel
theorem dX0_wornOf_26 : decode cX0_wornOf 26 = .ok (.iconst 1, 1) := by decide +kernel
theorem dX0_wornOf_27 : decode cX0_wornOf 27 = .ok (.goto 4, 3) := by decide +kernel
theorem dX0_wornOf_30 : decode cX0_wornOf 30 = .ok (.iconst 0, 1) := by decide +kernel
theorem dX0_wornOf_31 : decode cX0_wornOf 31 = .ok (.aload_n 0, 1) := by decide +kernel
theorem dX0_wornOf_32 : decode cX0_wornOf 32 = .ok (.getfield 15, 3) := by decide +kernel
theorem dX0_wornOf_35 : decode cX0_wornOf 35 = .ok (.iload 4, 2) := by decide +kernel
theorem dX0_wornOf_37 : decode cX0_wornOf 37 = .ok (.iaload, 1) := by decide +kernel
theorem dX0_wornOf_38 : decode cX0_wornOf 38 = .ok (.aload_n 1, 1) := by decide +kernel
theorem dX0_wornOf_39 : decode cX0_wornOf 39 = .ok (.getfield 25, 3) := by decide +kernel
theorem dX0_wornOf_42 : decode cX0_wornOf 42 = .ok (.iload 4, 2) := by decide +kernel
theorem dX0_wornOf_44 : decode cX0_wornOf 44 = .ok (.iaload, 1) := by decide +kernel
theorem dX0_wornOf_45 : decode cX0_wornOf 45 = .ok (.if_icmp .le 7, 3) := by decide +kernel
theorem dX0_wornOf_48 : decode cX0_wornOf 48 = .ok (.iconst 1, 1) := by decide +kernel
theorem dX0_wornOf_49 : decode cX0_wornOf 49 = .ok (.goto 4, 3) := by decide +kernel
theorem dX0_wornOf_52 : decode cX0_wornOf 52 = .ok (.iconst 0, 1) := by decide +kernel
theorem dX0_wornOf_53 : decode cX0_wornOf 53 = .ok (.iadd, 1) := by decide +kernel
theorem dX0_wornOf_54 : decode cX0_wornOf 54 = .ok (.ireturn, 1) := by decide +kernel
theorem dX0_tiredTogether_0 : decode cX0_tiredTogether 0 = .ok (.iconst 0, 1) := by decide +kernel
theorem dX0_tiredTogether_1 : decode cX0_tiredTogether 1 = .ok (.istore_n 1, 1) := by decide +kernel
theorem dX0_tiredTogether_2 : decode cX0_tiredTogether 2 = .ok (.iconst 0, 1) := by decide +kernel
theorem dX0_tiredTogether_3 : decode cX0_tiredTogether 3 = .ok (.istore_n 2, 1) := by decide +kernel
theorem dX0_tiredTogether_4 : decode cX0_tiredTogether 4 = .ok (.iload_n 2, 1) := by decide +kernel
theorem dX0_tiredTogether_5 : decode cX0_tiredTogether 5 = .ok (.iconst 4, 1) := by decide +kernel
theorem dX0_tiredTogether_6 : decode cX0_tiredTogether 6 = .ok (.if_icmp .ge 18, 3) := by decide +kernel
theorem dX0_tiredTogether_9 : decode cX0_tiredTogether 9 = .ok (.iload_n 1, 1) := by decide +kernel
theorem dX0_tiredTogether_10 : decode cX0_tiredTogether 10 = .ok (.aload_n 0, 1) := by decide +kernel
theorem dX0_tiredTogether_11 : decode cX0_tiredTogether 11 = .ok (.getfield 15, 3) := by decide +kernel
theorem dX0_tiredTogether_14 : decode cX0_tiredTogether 14 = .ok (.iload_n 2, 1) := by decide +kernel
theorem dX0_tiredTogether_15 : decode cX0_tiredTogether 15 = .ok (.iaload, 1) := by decide +kernel
theorem dX0_tiredTogether_16 : decode cX0_tiredTogether 16 = .ok (.iadd, 1) := by decide +kernel
theorem dX0_tiredTogether_17 : decode cX0_tiredTogether 17 = .ok (.istore_n 1, 1) := by decide +kernel
theorem dX0_tiredTogether_18 : decode cX0_tiredTogether 18 = .ok (.iinc 2 1, 3) := by decide +kernel
theorem dX0_tiredTogether_21 : decode cX0_tiredTogether 21 = .ok (.goto (-17), 3) := by decide +kernel
theorem dX0_tiredTogether_24 : decode cX0_tiredTogether 24 = .ok (.iload_n 1, 1) := by decide +kernel
theorem dX0_tiredTogether_25 : decode cX0_tiredTogether 25 = .ok (.ireturn, 1) := by decide +kernel
theorem dX0_minutesOn_0 : decode cX0_minutesOn 0 = .ok (.aload_n 1, 1) := by decide +kernel
theorem dX0_minutesOn_1 : decode cX0_minutesOn 1 = .ok (.getfield 37, 3) := by decide +kernel
theorem dX0_minutesOn_4 : decode cX0_minutesOn 4 = .ok (.iload_n 2, 1) := by decide +kernel
theorem dX0_minutesOn_5 : decode cX0_minutesOn 5 = .ok (.iaload, 1) := by decide +kernel
theorem dX0_minutesOn_6 : decode cX0_minutesOn 6 = .ok (.aload_n 1, 1) := by decide +kernel
theorem dX0_minutesOn_7 : decode cX0_minutesOn 7 = .ok (.iload_n 2, 1) := by decide +kernel
theorem dX0_minutesOn_8 : decode cX0_minutesOn 8 = .ok (.iload_n 3, 1) := by decide +kernel
theorem dX0_minutesOn_9 : decode cX0_minutesOn 9 = .ok (.invokevirtual 40, 3) := by decide +kernel
theorem dX0_minutesOn_12 : decode cX0_minutesOn 12 = .ok (.iconst 3, 1) := by decide +kernel
theorem dX0_minutesOn_13 : decode cX0_minutesOn 13 = .ok (.aload_n 0, 1) := by decide +kernel
theorem dX0_minutesOn_14 : decode cX0_minutesOn 14 = .ok (.aload_n 1, 1) := by decide +kernel
theorem dX0_minutesOn_15 : decode cX0_minutesOn 15 = .ok (.iload_n 3, 1) := by decide +kernel
theorem dX0_minutesOn_16 : decode cX0_minutesOn 16 = .ok (.invokevirtual 44, 3) := by decide +kernel
theorem dX0_minutesOn_19 : decode cX0_minutesOn 19 = .ok (.imul, 1) := by decide +kernel
theorem dX0_minutesOn_20 : decode cX0_minutesOn 20 = .ok (.iadd, 1) := by decide +kernel
theorem dX0_minutesOn_21 : decode cX0_minutesOn 21 = .ok (.imul, 1) := by decide +kernel
theorem dX0_minutesOn_22 : decode cX0_minutesOn 22 = .ok (.ireturn, 1) := by decide +kernel
theorem dX0_minutesToWalk_0 : decode cX0_minutesToWalk 0 = .ok (.aload_n 0, 1) := by decide +kernel
theorem dX0_minutesToWalk_1 : decode cX0_minutesToWalk 1 = .ok (.aload_n 1, 1) := by decide +kernel
theorem dX0_minutesToWalk_2 : decode cX0_minutesToWalk 2 = .ok (.aload_n 0, 1) := by decide +kernel
theorem dX0_minutesToWalk_3 : decode cX0_minutesToWalk 3 = .ok (.getfield 19, 3) := by decide +kernel
theorem dX0_minutesToWalk_6 : decode cX0_minutesToWalk 6 = .ok (.iload_n 2, 1) := by decide +kernel
theorem dX0_minutesToWalk_7 : decode cX0_minutesToWalk 7 = .ok (.invokevirtual 48, 3) := by decide +kernel
theorem dX0_minutesToWalk_10 : decode cX0_minutesToWalk 10 = .ok (.istore_n 3, 1) := by decide +kernel
theorem dX0_minutesToWalk_11 : decode cX0_minutesToWalk 11 = .ok (.aload_n 0, 1) := by decide +kernel
theorem dX0_minutesToWalk_12 : decode cX0_minutesToWalk 12 = .ok (.getfield 9, 3) := by decide +kernel
theorem dX0_minutesToWalk_15 : decode cX0_minutesToWalk 15 = .ok (.bipush (-9), 2) := by decide +kernel
theorem dX0_minutesToWalk_17 : decode cX0_minutesToWalk 17 = .ok (.if_icmp .eq 11, 3) := by decide +kernel
theorem dX0_minutesToWalk_20 : decode cX0_minutesToWalk 20 = .ok (.aload_n 0, 1) := by decide +kernel
theorem dX0_minutesToWalk_21 : decode cX0_minutesToWalk 21 = .ok (.getfield 9, 3) := by decide +kernel
theorem dX0_minutesToWalk_24 : decode cX0_minutesToWalk 24 = .ok (.iload_n 2, 1) := by decide +kernel
theorem dX0_minutesToWalk_25 : decode cX0_minutesToWalk 25 = .ok (.if_icmp .ne 7, 3) := by decide +kernel
theorem dX0_minutesToWalk_28 : decode cX0_minutesToWalk 28 = .ok (.iload_n 3, 1) := by decide +kernel
theorem dX0_minutesToWalk_29 : decode cX0_minutesToWalk 29 = .ok (.goto 9, 3) := by decide +kernel
theorem dX0_minutesToWalk_32 : decode cX0_minutesToWalk 32 = .ok (.iload_n 3, 1) := by decide +kernel
theorem dX0_minutesToWalk_33 : decode cX0_minutesToWalk 33 = .ok (.aload_n 1, 1) := by decide +kernel
theorem dX0_minutesToWalk_34 : decode cX0_minutesToWalk 34 = .ok (.getfield 52, 3) := by decide +kernel
theorem dX0_minutesToWalk_37 : decode cX0_minutesToWalk 37 = .ok (.iadd, 1) := by decide +kernel
theorem dX0_minutesToWalk_38 : decode cX0_minutesToWalk 38 = .ok (.ireturn, 1) := by decide +kernel
theorem dX0_walkOn_0 : decode cX0_walkOn 0 = .ok (.aload_n 0, 1) := by decide +kernel
theorem dX0_walkOn_1 : decode cX0_walkOn 1 = .ok (.getfield 19, 3) := by decide +kernel
theorem dX0_walkOn_4 : decode cX0_walkOn 4 = .ok (.aload_n 1, 1) := by decide +kernel
theorem dX0_walkOn_5 : decode cX0_walkOn 5 = .ok (.getfield 55, 3) := by decide +kernel
theorem dX0_walkOn_8 : decode cX0_walkOn 8 = .ok (.if_icmp .ge 37, 3) := by decide +kernel
theorem dX0_walkOn_11 : decode cX0_walkOn 11 = .ok (.aload_n 0, 1) := by decide +kernel
theorem dX0_walkOn_12 : decode cX0_walkOn 12 = .ok (.iload_n 3, 1) := by decide +kernel
theorem dX0_walkOn_13 : decode cX0_walkOn 13 = .ok (.putfield 22, 3) := by decide +kernel
theorem dX0_walkOn_16 : decode cX0_walkOn 16 = .ok (.aload_n 0, 1) := by decide +kernel
theorem dX0_walkOn_17 : decode cX0_walkOn 17 = .ok (.iload_n 2, 1) := by decide +kernel
theorem dX0_walkOn_18 : decode cX0_walkOn 18 = .ok (.aload_n 1, 1) := by decide +kernel
theorem dX0_walkOn_19 : decode cX0_walkOn 19 = .ok (.getfield 37, 3) := by decide +kernel
theorem dX0_walkOn_22 : decode cX0_walkOn 22 = .ok (.aload_n 0, 1) := by decide +kernel
theorem dX0_walkOn_23 : decode cX0_walkOn 23 = .ok (.getfield 19, 3) := by decide +kernel
theorem dX0_walkOn_26 : decode cX0_walkOn 26 = .ok (.iaload, 1) := by decide +kernel
theorem dX0_walkOn_27 : decode cX0_walkOn 27 = .ok (.invokevirtual 58, 3) := by decide +kernel
theorem dX0_walkOn_30 : decode cX0_walkOn 30 = .ok (.aload_n 0, 1) := by decide +kernel
theorem dX0_walkOn_31 : decode cX0_walkOn 31 = .ok (.iload_n 2, 1) := by decide +kernel
theorem dX0_walkOn_32 : decode cX0_walkOn 32 = .ok (.putfield 9, 3) := by decide +kernel
theorem dX0_walkOn_35 : decode cX0_walkOn 35 = .ok (.aload_n 0, 1) := by decide +kernel
theorem dX0_walkOn_36 : decode cX0_walkOn 36 = .ok (.dup, 1) := by decide +kernel
theorem dX0_walkOn_37 : decode cX0_walkOn 37 = .ok (.getfield 19, 3) := by decide +kernel
theorem dX0_walkOn_40 : decode cX0_walkOn 40 = .ok (.iconst 1, 1) := by decide +kernel
theorem dX0_walkOn_41 : decode cX0_walkOn 41 = .ok (.iadd, 1) := by decide +kernel
theorem dX0_walkOn_42 : decode cX0_walkOn 42 = .ok (.putfield 19, 3) := by decide +kernel
theorem dX0_walkOn_45 : decode cX0_walkOn 45 = .ok (.return_, 1) := by decide +kernel
theorem dX0_tire_0 : decode cX0_tire 0 = .ok (.iconst 0, 1) := by decide +kernel
theorem dX0_tire_1 : decode cX0_tire 1 = .ok (.istore_n 3, 1) := by decide +kernel
theorem dX0_tire_2 : decode cX0_tire 2 = .ok (.iload_n 3, 1) := by decide +kernel
theorem dX0_tire_3 : decode cX0_tire 3 = .ok (.iconst 4, 1) := by decide +kernel
theorem dX0_tire_4 : decode cX0_tire 4 = .ok (.if_icmp .ge 65, 3) := by decide +kernel
theorem dX0_tire_7 : decode cX0_tire 7 = .ok (.iload_n 3, 1) := by decide +kernel
theorem dX0_tire_8 : decode cX0_tire 8 = .ok (.iload_n 1, 1) := by decide +kernel
theorem dX0_tire_9 : decode cX0_tire 9 = .ok (.bipush 10, 2) := by decide +kernel
theorem dX0_tire_11 : decode cX0_tire 11 = .ok (.idiv, 1) := by decide +kernel
theorem dX0_tire_12 : decode cX0_tire 12 = .ok (.if_icmp .eq 11, 3) := by decide +kernel
theorem dX0_tire_15 : decode cX0_tire 15 = .ok (.iload_n 3, 1) := by decide +kernel
theorem dX0_tire_16 : decode cX0_tire 16 = .ok (.iload_n 1, 1) := by decide +kernel
theorem dX0_tire_17 : decode cX0_tire 17 = .ok (.bipush 10, 2) := by decide +kernel
theorem dX0_tire_19 : decode cX0_tire 19 = .ok (.irem, 1) := by decide +kernel
theorem dX0_tire_20 : decode cX0_tire 20 = .ok (.if_icmp .ne 25, 3) := by decide +kernel
theorem dX0_tire_23 : decode cX0_tire 23 = .ok (.aload_n 0, 1) := by decide +kernel
theorem dX0_tire_24 : decode cX0_tire 24 = .ok (.getfield 15, 3) := by decide +kernel
theorem dX0_tire_27 : decode cX0_tire 27 = .ok (.iload_n 3, 1) := by decide +kernel
theorem dX0_tire_28 : decode cX0_tire 28 = .ok (.aload_n 0, 1) := by decide +kernel
theorem dX0_tire_29 : decode cX0_tire 29 = .ok (.getfield 15, 3) := by decide +kernel
theorem dX0_tire_32 : decode cX0_tire 32 = .ok (.iload_n 3, 1) := by decide +kernel
theorem dX0_tire_33 : decode cX0_tire 33 = .ok (.iaload, 1) := by decide +kernel
theorem dX0_tire_34 : decode cX0_tire 34 = .ok (.iload_n 2, 1) := by decide +kernel
theorem dX0_tire_35 : decode cX0_tire 35 = .ok (.iadd, 1) := by decide +kernel
theorem dX0_tire_36 : decode cX0_tire 36 = .ok (.bipush 99, 2) := by decide +kernel
theorem dX0_tire_38 : decode cX0_tire 38 = .ok (.invokestatic 62, 3) := by decide +kernel
theorem dX0_tire_41 : decode cX0_tire 41 = .ok (.iastore, 1) := by decide +kernel
theorem dX0_tire_42 : decode cX0_tire 42 = .ok (.goto 21, 3) := by decide +kernel
theorem dX0_tire_45 : decode cX0_tire 45 = .ok (.aload_n 0, 1) := by decide +kernel
theorem dX0_tire_46 : decode cX0_tire 46 = .ok (.getfield 15, 3) := by decide +kernel
theorem dX0_tire_49 : decode cX0_tire 49 = .ok (.iload_n 3, 1) := by decide +kernel
theorem dX0_tire_50 : decode cX0_tire 50 = .ok (.aload_n 0, 1) := by decide +kernel
theorem dX0_tire_51 : decode cX0_tire 51 = .ok (.getfield 15, 3) := by decide +kernel
theorem dX0_tire_54 : decode cX0_tire 54 = .ok (.iload_n 3, 1) := by decide +kernel
theorem dX0_tire_55 : decode cX0_tire 55 = .ok (.iaload, 1) := by decide +kernel
theorem dX0_tire_56 : decode cX0_tire 56 = .ok (.iload_n 2, 1) := by decide +kernel
theorem dX0_tire_57 : decode cX0_tire 57 = .ok (.isub, 1) := by decide +kernel
theorem dX0_tire_58 : decode cX0_tire 58 = .ok (.iconst 0, 1) := by decide +kernel
theorem dX0_tire_59 : decode cX0_tire 59 = .ok (.invokestatic 67, 3) := by decide +kernel
theorem dX0_tire_62 : decode cX0_tire 62 = .ok (.iastore, 1) := by decide +kernel
theorem dX0_tire_63 : decode cX0_tire 63 = .ok (.iinc 3 1, 3) := by decide +kernel
theorem dX0_tire_66 : decode cX0_tire 66 = .ok (.goto (-64), 3) := by decide +kernel
theorem dX0_tire_69 : decode cX0_tire 69 = .ok (.return_, 1) := by decide +kernel
theorem dX0_ease_0 : decode cX0_ease 0 = .ok (.iconst 0, 1) := by decide +kernel
theorem dX0_ease_1 : decode cX0_ease 1 = .ok (.istore_n 2, 1) := by decide +kernel
theorem dX0_ease_2 : decode cX0_ease 2 = .ok (.iload_n 2, 1) := by decide +kernel
theorem dX0_ease_3 : decode cX0_ease 3 = .ok (.iconst 4, 1) := by decide +kernel
theorem dX0_ease_4 : decode cX0_ease 4 = .ok (.if_icmp .ge 27, 3) := by decide +kernel
theorem dX0_ease_7 : decode cX0_ease 7 = .ok (.aload_n 0, 1) := by decide +kernel
theorem dX0_ease_8 : decode cX0_ease 8 = .ok (.getfield 15, 3) := by decide +kernel
theorem dX0_ease_11 : decode cX0_ease 11 = .ok (.iload_n 2, 1) := by decide +kernel
theorem dX0_ease_12 : decode cX0_ease 12 = .ok (.aload_n 0, 1) := by decide +kernel
theorem dX0_ease_13 : decode cX0_ease 13 = .ok (.getfield 15, 3) := by decide +kernel
theorem dX0_ease_16 : decode cX0_ease 16 = .ok (.iload_n 2, 1) := by decide +kernel
theorem dX0_ease_17 : decode cX0_ease 17 = .ok (.iaload, 1) := by decide +kernel
theorem dX0_ease_18 : decode cX0_ease 18 = .ok (.iload_n 1, 1) := by decide +kernel
theorem dX0_ease_19 : decode cX0_ease 19 = .ok (.isub, 1) := by decide +kernel
theorem dX0_ease_20 : decode cX0_ease 20 = .ok (.iconst 0, 1) := by decide +kernel
theorem dX0_ease_21 : decode cX0_ease 21 = .ok (.invokestatic 67, 3) := by decide +kernel
theorem dX0_ease_24 : decode cX0_ease 24 = .ok (.iastore, 1) := by decide +kernel
theorem dX0_ease_25 : decode cX0_ease 25 = .ok (.iinc 2 1, 3) := by decide +kernel
theorem dX0_ease_28 : decode cX0_ease 28 = .ok (.goto (-26), 3) := by decide +kernel
theorem dX0_ease_31 : decode cX0_ease 31 = .ok (.return_, 1) := by decide +kernel
theorem dX1_init_0 : decode cX1_init 0 = .ok (.aload_n 0, 1) := by decide +kernel
theorem dX1_init_1 : decode cX1_init 1 = .ok (.invokespecial 3, 3) := by decide +kernel
theorem dX1_init_4 : decode cX1_init 4 = .ok (.aload_n 0, 1) := by decide +kernel
theorem dX1_init_5 : decode cX1_init 5 = .ok (.bipush (-9), 2) := by decide +kernel
theorem dX1_init_7 : decode cX1_init 7 = .ok (.putfield 9, 3) := by decide +kernel
theorem dX1_init_10 : decode cX1_init 10 = .ok (.aload_n 0, 1) := by decide +kernel
theorem dX1_init_11 : decode cX1_init 11 = .ok (.bipush 6, 2) := by decide +kernel
theorem dX1_init_13 : decode cX1_init 13 = .ok (.newarray .int, 2) := by decide +kernel
theorem dX1_init_15 : decode cX1_init 15 = .ok (.putfield 15, 3) := by decide +kernel
theorem dX1_init_18 : decode cX1_init 18 = .ok (.aload_n 0, 1) := by decide +kernel
theorem dX1_init_19 : decode cX1_init 19 = .ok (.bipush 6, 2) := by decide +kernel
theorem dX1_init_21 : decode cX1_init 21 = .ok (.newarray .int, 2) := by decide +kernel
theorem dX1_init_23 : decode cX1_init 23 = .ok (.putfield 19, 3) := by decide +kernel
theorem dX1_init_26 : decode cX1_init 26 = .ok (.aload_n 0, 1) := by decide +kernel
theorem dX1_init_27 : decode cX1_init 27 = .ok (.bipush 7, 2) := by decide +kernel
theorem dX1_init_29 : decode cX1_init 29 = .ok (.anewarray 22, 3) := by decide +kernel
theorem dX1_init_32 : decode cX1_init 32 = .ok (.putfield 24, 3) := by decide +kernel
theorem dX1_init_35 : decode cX1_init 35 = .ok (.aload_n 0, 1) := by decide +kernel
theorem dX1_init_36 : decode cX1_init 36 = .ok (.iload_n 1, 1) := by decide +kernel
theorem dX1_init_37 : decode cX1_init 37 = .ok (.putfield 28, 3) := by decide +kernel
theorem dX1_init_40 : decode cX1_init 40 = .ok (.iconst 0, 1) := by decide +kernel
theorem dX1_init_41 : decode cX1_init 41 = .ok (.istore_n 2, 1) := by decide +kernel
theorem dX1_init_42 : decode cX1_init 42 = .ok (.iload_n 2, 1) := by decide +kernel
theorem dX1_init_43 : decode cX1_init 43 = .ok (.bipush 6, 2) := by decide +kernel
theorem dX1_init_45 : decode cX1_init 45 = .ok (.if_icmp .gt 22, 3) := by decide +kernel
theorem dX1_init_48 : decode cX1_init 48 = .ok (.aload_n 0, 1) := by decide +kernel
theorem dX1_init_49 : decode cX1_init 49 = .ok (.getfield 24, 3) := by decide +kernel
theorem dX1_init_52 : decode cX1_init 52 = .ok (.iload_n 2, 1) := by decide +kernel
theorem dX1_init_53 : decode cX1_init 53 = .ok (.new 22, 3) := by decide +kernel
theorem dX1_init_56 : decode cX1_init 56 = .ok (.dup, 1) := by decide +kernel
theorem dX1_init_57 : decode cX1_init 57 = .ok (.invokespecial 32, 3) := by decide +kernel
theorem dX1_init_60 : decode cX1_init 60 = .ok (.aastore, 1) := by decide +kernel
theorem dX1_init_61 : decode cX1_init 61 = .ok (.iinc 2 1, 3) := by decide +kernel
theorem dX1_init_64 : decode cX1_init 64 = .ok (.goto (-22), 3) := by decide +kernel
theorem dX1_init_67 : decode cX1_init 67 = .ok (.return_, 1) := by decide +kernel
theorem dX1_plan_0 : decode cX1_plan 0 = .ok (.aload_n 0, 1) := by decide +kernel
theorem dX1_plan_1 : decode cX1_plan 1 = .ok (.iconst 1, 1) := by decide +kernel
theorem dX1_plan_2 : decode cX1_plan 2 = .ok (.putfield 33, 3) := by decide +kernel
theorem dX1_plan_5 : decode cX1_plan 5 = .ok (.aload_n 0, 1) := by decide +kernel
theorem dX1_plan_6 : decode cX1_plan 6 = .ok (.bipush (-9), 2) := by decide +kernel
theorem dX1_plan_8 : decode cX1_plan 8 = .ok (.putfield 9, 3) := by decide +kernel
theorem dX1_plan_11 : decode cX1_plan 11 = .ok (.iconst 0, 1) := by decide +kernel
theorem dX1_plan_12 : decode cX1_plan 12 = .ok (.istore_n 3, 1) := by decide +kernel
theorem dX1_plan_13 : decode cX1_plan 13 = .ok (.iload_n 3, 1) := by decide +kernel
theorem dX1_plan_14 : decode cX1_plan 14 = .ok (.bipush 6, 2) := by decide +kernel
theorem dX1_plan_16 : decode cX1_plan 16 = .ok (.if_icmp .ge 25, 3) := by decide +kernel
theorem dX1_plan_19 : decode cX1_plan 19 = .ok (.aload_n 0, 1) := by decide +kernel
theorem dX1_plan_20 : decode cX1_plan 20 = .ok (.getfield 15, 3) := by decide +kernel
theorem dX1_plan_23 : decode cX1_plan 23 = .ok (.iload_n 3, 1) := by decide +kernel
theorem dX1_plan_24 : decode cX1_plan 24 = .ok (.bipush (-9), 2) := by decide +kernel
theorem dX1_plan_26 : decode cX1_plan 26 = .ok (.iastore, 1) := by decide +kernel
theorem dX1_plan_27 : decode cX1_plan 27 = .ok (.aload_n 0, 1) := by decide +kernel
theorem dX1_plan_28 : decode cX1_plan 28 = .ok (.getfield 19, 3) := by decide +kernel
theorem dX1_plan_31 : decode cX1_plan 31 = .ok (.iload_n 3, 1) := by decide +kernel
theorem dX1_plan_32 : decode cX1_plan 32 = .ok (.bipush (-9), 2) := by decide +kernel
theorem dX1_plan_34 : decode cX1_plan 34 = .ok (.iastore, 1) := by decide +kernel
theorem dX1_plan_35 : decode cX1_plan 35 = .ok (.iinc 3 1, 3) := by decide +kernel
theorem dX1_plan_38 : decode cX1_plan 38 = .ok (.goto (-25), 3) := by decide +kernel
theorem dX1_plan_41 : decode cX1_plan 41 = .ok (.aload_n 1, 1) := by decide +kernel
theorem dX1_plan_42 : decode cX1_plan 42 = .ok (.getfield 36, 3) := by decide +kernel
theorem dX1_plan_45 : decode cX1_plan 45 = .ok (.ifCond .le 49, 3) := by decide +kernel
theorem dX1_plan_48 : decode cX1_plan 48 = .ok (.aload_n 2, 1) := by decide +kernel
theorem dX1_plan_49 : decode cX1_plan 49 = .ok (.getfield 41, 3) := by decide +kernel
theorem dX1_plan_52 : decode cX1_plan 52 = .ok (.aload_n 1, 1) := by decide +kernel
theorem dX1_plan_53 : decode cX1_plan 53 = .ok (.getfield 44, 3) := by decide +kernel
theorem dX1_plan_56 : decode cX1_plan 56 = .ok (.if_icmp .ge 38, 3) := by decide +kernel
theorem dX1_plan_59 : decode cX1_plan 59 = .ok (.aload_n 0, 1) := by decide +kernel
theorem dX1_plan_60 : decode cX1_plan 60 = .ok (.getfield 24, 3) := by decide +kernel
theorem dX1_plan_63 : decode cX1_plan 63 = .ok (.aload_n 2, 1) := by decide +kernel
theorem dX1_plan_64 : decode cX1_plan 64 = .ok (.getfield 41, 3) := by decide +kernel
theorem dX1_plan_67 : decode cX1_plan 67 = .ok (.aaload, 1) := by decide +kernel
theorem dX1_plan_68 : decode cX1_plan 68 = .ok (.aload_n 2, 1) := by decide +kernel
theorem dX1_plan_69 : decode cX1_plan 69 = .ok (.invokevirtual 47, 3) := by decide +kernel
theorem dX1_plan_72 : decode cX1_plan 72 = .ok (.aload_n 0, 1) := by decide +kernel
theorem dX1_plan_73 : decode cX1_plan 73 = .ok (.getfield 24, 3) := by decide +kernel
theorem dX1_plan_76 : decode cX1_plan 76 = .ok (.aload_n 2, 1) := by decide +kernel
theorem dX1_plan_77 : decode cX1_plan 77 = .ok (.getfield 41, 3) := by decide +kernel
theorem dX1_plan_80 : decode cX1_plan 80 = .ok (.aaload, 1) := by decide +kernel
theorem dX1_plan_81 : decode cX1_plan 81 = .ok (.iconst 0, 1) := by decide +kernel
theorem dX1_plan_82 : decode cX1_plan 82 = .ok (.putfield 51, 3) := by decide +kernel
theorem dX1_plan_85 : decode cX1_plan 85 = .ok (.aload_n 0, 1) := by decide +kernel
theorem dX1_plan_86 : decode cX1_plan 86 = .ok (.aload_n 1, 1) := by decide +kernel
theorem dX1_plan_87 : decode cX1_plan 87 = .ok (.aload_n 2, 1) := by decide +kernel
theorem dX1_plan_88 : decode cX1_plan 88 = .ok (.getfield 41, 3) := by decide +kernel
theorem dX1_plan_91 : decode cX1_plan 91 = .ok (.invokevirtual 54, 3) := by decide +kernel
theorem dX1_plan_94 : decode cX1_plan 94 = .ok (.return_, 1) := by decide +kernel
theorem dX1_search_0 : decode cX1_search 0 = .ok (.iload_n 2, 1) := by decide +kernel
theorem dX1_search_1 : decode cX1_search 1 = .ok (.aload_n 1, 1) := by decide +kernel
theorem dX1_search_2 : decode cX1_search 2 = .ok (.getfield 44, 3) := by decide +kernel
theorem dX1_search_5 : decode cX1_search 5 = .ok (.if_icmp .ge 9, 3) := by decide +kernel
theorem dX1_search_8 : decode cX1_search 8 = .ok (.iload_n 2, 1) := by decide +kernel
theorem dX1_search_9 : decode cX1_search 9 = .ok (.bipush 6, 2) := by decide +kernel
theorem dX1_search_11 : decode cX1_search 11 = .ok (.if_icmp .lt 17, 3) := by decide +kernel
theorem dX1_search_14 : decode cX1_search 14 = .ok (.aload_n 0, 1) := by decide +kernel
theorem dX1_search_15 : decode cX1_search 15 = .ok (.aload_n 0, 1) := by decide +kernel
theorem dX1_search_16 : decode cX1_search 16 = .ok (.getfield 24, 3) := by decide +kernel
theorem dX1_search_19 : decode cX1_search 19 = .ok (.iload_n 2, 1) := by decide +kernel
theorem dX1_search_20 : decode cX1_search 20 = .ok (.aaload, 1) := by decide +kernel
theorem dX1_search_21 : decode cX1_search 21 = .ok (.getfield 51, 3) := by decide +kernel
theorem dX1_search_24 : decode cX1_search 24 = .ok (.invokevirtual 58, 3) := by decide +kernel
theorem dX1_search_27 : decode cX1_search 27 = .ok (.return_, 1) := by decide +kernel
theorem dX1_search_28 : decode cX1_search 28 = .ok (.aload_n 0, 1) := by decide +kernel
theorem dX1_search_29 : decode cX1_search 29 = .ok (.getfield 24, 3) := by decide +kernel
theorem dX1_search_32 : decode cX1_search 32 = .ok (.iload_n 2, 1) := by decide +kernel
theorem dX1_search_33 : decode cX1_search 33 = .ok (.aaload, 1) := by decide +kernel
theorem dX1_search_34 : decode cX1_search 34 = .ok (.astore_n 3, 1) := by decide +kernel
theorem dX1_search_35 : decode cX1_search 35 = .ok (.aload_n 0, 1) := by decide +kernel
theorem dX1_search_36 : decode cX1_search 36 = .ok (.getfield 24, 3) := by decide +kernel
theorem dX1_search_39 : decode cX1_search 39 = .ok (.iload_n 2, 1) := by decide +kernel
theorem dX1_search_40 : decode cX1_search 40 = .ok (.iconst 1, 1) := by decide +kernel
theorem dX1_search_41 : decode cX1_search 41 = .ok (.iadd, 1) := by decide +kernel
theorem dX1_search_42 : decode cX1_search 42 = .ok (.aaload, 1) := by decide +kernel
theorem dX1_search_43 : decode cX1_search 43 = .ok (.astore 4, 2) := by decide +kernel
theorem dX1_search_45 : decode cX1_search 45 = .ok (.iconst 0, 1) := by decide +kernel
theorem dX1_search_46 : decode cX1_search 46 = .ok (.istore 5, 2) := by decide +kernel
theorem dX1_search_48 : decode cX1_search 48 = .ok (.iload 5, 2) := by decide +kernel
theorem dX1_search_50 : decode cX1_search 50 = .ok (.aload_n 1, 1) := by decide +kernel
theorem dX1_search_51 : decode cX1_search 51 = .ok (.getfield 36, 3) := by decide +kernel
theorem dX1_search_54 : decode cX1_search 54 = .ok (.if_icmp .ge 97, 3) := by decide +kernel
theorem dX1_search_57 : decode cX1_search 57 = .ok (.aload_n 1, 1) := by decide +kernel
theorem dX1_search_58 : decode cX1_search 58 = .ok (.getfield 62, 3) := by decide +kernel
theorem dX1_search_61 : decode cX1_search 61 = .ok (.iload 5, 2) := by decide +kernel
theorem dX1_search_63 : decode cX1_search 63 = .ok (.iaload, 1) := by decide +kernel
theorem dX1_search_64 : decode cX1_search 64 = .ok (.istore 6, 2) := by decide +kernel
theorem dX1_search_66 : decode cX1_search 66 = .ok (.aload_n 0, 1) := by decide +kernel
theorem dX1_search_67 : decode cX1_search 67 = .ok (.getfield 28, 3) := by decide +kernel
theorem dX1_search_70 : decode cX1_search 70 = .ok (.ifCond .eq 16, 3) := by decide +kernel
theorem dX1_search_73 : decode cX1_search 73 = .ok (.aload_n 3, 1) := by decide +kernel
theorem dX1_search_74 : decode cX1_search 74 = .ok (.aload_n 1, 1) := by decide +kernel
theorem dX1_search_75 : decode cX1_search 75 = .ok (.iload 6, 2) := by decide +kernel
theorem dX1_search_77 : decode cX1_search 77 = .ok (.invokevirtual 65, 3) := by decide +kernel
theorem dX1_search_80 : decode cX1_search 80 = .ok (.ifCond .le 6, 3) := by decide +kernel
theorem dX1_search_83 : decode cX1_search 83 = .ok (.goto 62, 3) := by decide +kernel
theorem dX1_search_86 : decode cX1_search 86 = .ok (.aload_n 3, 1) := by decide +kernel
theorem dX1_search_87 : decode cX1_search 87 = .ok (.getfield 51, 3) := by decide +kernel
theorem dX1_search_90 : decode cX1_search 90 = .ok (.aload_n 3, 1) := by decide +kernel
theorem dX1_search_91 : decode cX1_search 91 = .ok (.aload_n 1, 1) := by decide +kernel
theorem dX1_search_92 : decode cX1_search 92 = .ok (.iload 6, 2) := by decide +kernel
theorem dX1_search_94 : decode cX1_search 94 = .ok (.invokevirtual 69, 3) := by decide +kernel
theorem dX1_search_97 : decode cX1_search 97 = .ok (.iadd, 1) := by decide +kernel
theorem dX1_search_98 : decode cX1_search 98 = .ok (.istore 7, 2) := by decide +kernel
theorem dX1_search_100 : decode cX1_search 100 = .ok (.aload_n 0, 1) := by decide +kernel
theorem dX1_search_101 : decode cX1_search 101 = .ok (.aload_n 1, 1) := by decide +kernel
theorem dX1_search_102 : decode cX1_search 102 = .ok (.iload_n 2, 1) := by decide +kernel
theorem dX1_search_103 : decode cX1_search 103 = .ok (.iconst 1, 1) := by decide +kernel
theorem dX1_search_104 : decode cX1_search 104 = .ok (.iadd, 1) := by decide +kernel
theorem dX1_search_105 : decode cX1_search 105 = .ok (.iload 7, 2) := by decide +kernel
theorem dX1_search_107 : decode cX1_search 107 = .ok (.invokevirtual 72, 3) := by decide +kernel
theorem dX1_search_110 : decode cX1_search 110 = .ok (.ifCond .eq 35, 3) := by decide +kernel
theorem dX1_search_113 : decode cX1_search 113 = .ok (.aload 4, 2) := by decide +kernel
theorem dX1_search_115 : decode cX1_search 115 = .ok (.aload_n 3, 1) := by decide +kernel
theorem dX1_search_116 : decode cX1_search 116 = .ok (.invokevirtual 47, 3) := by decide +kernel
theorem dX1_search_119 : decode cX1_search 119 = .ok (.aload 4, 2) := by decide +kernel
theorem dX1_search_121 : decode cX1_search 121 = .ok (.aload_n 1, 1) := by decide +kernel
theorem dX1_search_122 : decode cX1_search 122 = .ok (.iload 6, 2) := by decide +kernel
theorem dX1_search_124 : decode cX1_search 124 = .ok (.iload 7, 2) := by decide +kernel
theorem dX1_search_126 : decode cX1_search 126 = .ok (.invokevirtual 76, 3) := by decide +kernel
theorem dX1_search_129 : decode cX1_search 129 = .ok (.aload_n 0, 1) := by decide +kernel
theorem dX1_search_130 : decode cX1_search 130 = .ok (.getfield 19, 3) := by decide +kernel
theorem dX1_search_133 : decode cX1_search 133 = .ok (.iload_n 2, 1) := by decide +kernel
theorem dX1_search_134 : decode cX1_search 134 = .ok (.iload 6, 2) := by decide +kernel
theorem dX1_search_136 : decode cX1_search 136 = .ok (.iastore, 1) := by decide +kernel
theorem dX1_search_137 : decode cX1_search 137 = .ok (.aload_n 0, 1) := by decide +kernel
theorem dX1_search_138 : decode cX1_search 138 = .ok (.aload_n 1, 1) := by decide +kernel
theorem dX1_search_139 : decode cX1_search 139 = .ok (.iload_n 2, 1) := by decide +kernel
theorem dX1_search_140 : decode cX1_search 140 = .ok (.iconst 1, 1) := by decide +kernel
theorem dX1_search_141 : decode cX1_search 141 = .ok (.iadd, 1) := by decide +kernel
theorem dX1_search_142 : decode cX1_search 142 = .ok (.invokevirtual 54, 3) := by decide +kernel
theorem dX1_search_145 : decode cX1_search 145 = .ok (.iinc 5 1, 3) := by decide +kernel
theorem dX1_search_148 : decode cX1_search 148 = .ok (.goto (-100), 3) := by decide +kernel
theorem dX1_search_151 : decode cX1_search 151 = .ok (.return_, 1) := by decide +kernel
theorem dX1_mayBeQuicker_0 : decode cX1_mayBeQuicker 0 = .ok (.aload_n 0, 1) := by decide +kernel
theorem dX1_mayBeQuicker_1 : decode cX1_mayBeQuicker 1 = .ok (.getfield 9, 3) := by decide +kernel
theorem dX1_mayBeQuicker_4 : decode cX1_mayBeQuicker 4 = .ok (.bipush (-9), 2) := by decide +kernel
theorem dX1_mayBeQuicker_6 : decode cX1_mayBeQuicker 6 = .ok (.if_icmp .eq 28, 3) := by decide +kernel
theorem dX1_mayBeQuicker_9 : decode cX1_mayBeQuicker 9 = .ok (.iload_n 3, 1) := by decide +kernel
theorem dX1_mayBeQuicker_10 : decode cX1_mayBeQuicker 10 = .ok (.aload_n 1, 1) := by decide +kernel
theorem dX1_mayBeQuicker_11 : decode cX1_mayBeQuicker 11 = .ok (.getfield 80, 3) := by decide +kernel
theorem dX1_mayBeQuicker_14 : decode cX1_mayBeQuicker 14 = .ok (.aload_n 1, 1) := by decide +kernel
theorem dX1_mayBeQuicker_15 : decode cX1_mayBeQuicker 15 = .ok (.getfield 44, 3) := by decide +kernel
theorem dX1_mayBeQuicker_18 : decode cX1_mayBeQuicker 18 = .ok (.iaload, 1) := by decide +kernel
theorem dX1_mayBeQuicker_19 : decode cX1_mayBeQuicker 19 = .ok (.iadd, 1) := by decide +kernel
theorem dX1_mayBeQuicker_20 : decode cX1_mayBeQuicker 20 = .ok (.aload_n 1, 1) := by decide +kernel
theorem dX1_mayBeQuicker_21 : decode cX1_mayBeQuicker 21 = .ok (.getfield 80, 3) := by decide +kernel
theorem dX1_mayBeQuicker_24 : decode cX1_mayBeQuicker 24 = .ok (.iload_n 2, 1) := by decide +kernel
theorem dX1_mayBeQuicker_25 : decode cX1_mayBeQuicker 25 = .ok (.iaload, 1) := by decide +kernel
theorem dX1_mayBeQuicker_26 : decode cX1_mayBeQuicker 26 = .ok (.isub, 1) := by decide +kernel
theorem dX1_mayBeQuicker_27 : decode cX1_mayBeQuicker 27 = .ok (.aload_n 0, 1) := by decide +kernel
theorem dX1_mayBeQuicker_28 : decode cX1_mayBeQuicker 28 = .ok (.getfield 9, 3) := by decide +kernel
theorem dX1_mayBeQuicker_31 : decode cX1_mayBeQuicker 31 = .ok (.if_icmp .ge 7, 3) := by decide +kernel
theorem dX1_mayBeQuicker_34 : decode cX1_mayBeQuicker 34 = .ok (.iconst 1, 1) := by decide +kernel
theorem dX1_mayBeQuicker_35 : decode cX1_mayBeQuicker 35 = .ok (.goto 4, 3) := by decide +kernel
theorem dX1_mayBeQuicker_38 : decode cX1_mayBeQuicker 38 = .ok (.iconst 0, 1) := by decide +kernel
theorem dX1_mayBeQuicker_39 : decode cX1_mayBeQuicker 39 = .ok (.ireturn, 1) := by decide +kernel
theorem dX1_take_0 : decode cX1_take 0 = .ok (.aload_n 0, 1) := by decide +kernel
theorem dX1_take_1 : decode cX1_take 1 = .ok (.iload_n 1, 1) := by decide +kernel
theorem dX1_take_2 : decode cX1_take 2 = .ok (.putfield 9, 3) := by decide +kernel
theorem dX1_take_5 : decode cX1_take 5 = .ok (.iconst 0, 1) := by decide +kernel
theorem dX1_take_6 : decode cX1_take 6 = .ok (.istore_n 2, 1) := by decide +kernel
theorem dX1_take_7 : decode cX1_take 7 = .ok (.iload_n 2, 1) := by decide +kernel
theorem dX1_take_8 : decode cX1_take 8 = .ok (.bipush 6, 2) := by decide +kernel
theorem dX1_take_10 : decode cX1_take 10 = .ok (.if_icmp .ge 21, 3) := by decide +kernel
theorem dX1_take_13 : decode cX1_take 13 = .ok (.aload_n 0, 1) := by decide +kernel
theorem dX1_take_14 : decode cX1_take 14 = .ok (.getfield 15, 3) := by decide +kernel
theorem dX1_take_17 : decode cX1_take 17 = .ok (.iload_n 2, 1) := by decide +kernel
theorem dX1_take_18 : decode cX1_take 18 = .ok (.aload_n 0, 1) := by decide +kernel
theorem dX1_take_19 : decode cX1_take 19 = .ok (.getfield 19, 3) := by decide +kernel
theorem dX1_take_22 : decode cX1_take 22 = .ok (.iload_n 2, 1) := by decide +kernel
theorem dX1_take_23 : decode cX1_take 23 = .ok (.iaload, 1) := by decide +kernel
theorem dX1_take_24 : decode cX1_take 24 = .ok (.iastore, 1) := by decide +kernel
theorem dX1_take_25 : decode cX1_take 25 = .ok (.iinc 2 1, 3) := by decide +kernel
theorem dX1_take_28 : decode cX1_take 28 = .ok (.goto (-21), 3) := by decide +kernel
theorem dX1_take_31 : decode cX1_take 31 = .ok (.return_, 1) := by decide +kernel
theorem dX2_init_0 : decode cX2_init 0 = .ok (.aload_n 0, 1) := by decide +kernel
theorem dX2_init_1 : decode cX2_init 1 = .ok (.invokespecial 3, 3) := by decide +kernel
theorem dX2_init_4 : decode cX2_init 4 = .ok (.aload_n 0, 1) := by decide +kernel
theorem dX2_init_5 : decode cX2_init 5 = .ok (.sipush 200, 3) := by decide +kernel
theorem dX2_init_8 : decode cX2_init 8 = .ok (.newarray .int, 2) := by decide +kernel
theorem dX2_init_10 : decode cX2_init 10 = .ok (.putfield 9, 3) := by decide +kernel
theorem dX2_init_13 : decode cX2_init 13 = .ok (.aload_n 0, 1) := by decide +kernel
theorem dX2_init_14 : decode cX2_init 14 = .ok (.iconst 4, 1) := by decide +kernel
theorem dX2_init_15 : decode cX2_init 15 = .ok (.newarray .int, 2) := by decide +kernel
theorem dX2_init_17 : decode cX2_init 17 = .ok (.putfield 15, 3) := by decide +kernel
theorem dX2_init_20 : decode cX2_init 20 = .ok (.return_, 1) := by decide +kernel
theorem dX2_readInto_0 : decode cX2_readInto 0 = .ok (.aload_n 1, 1) := by decide +kernel
theorem dX2_readInto_1 : decode cX2_readInto 1 = .ok (.invokevirtual 18, 3) := by decide +kernel
theorem dX2_readInto_4 : decode cX2_readInto 4 = .ok (.aload_n 0, 1) := by decide +kernel
theorem dX2_readInto_5 : decode cX2_readInto 5 = .ok (.iconst 0, 1) := by decide +kernel
theorem dX2_readInto_6 : decode cX2_readInto 6 = .ok (.putfield 23, 3) := by decide +kernel
theorem dX2_readInto_9 : decode cX2_readInto 9 = .ok (.aload_n 0, 1) := by decide +kernel
theorem dX2_readInto_10 : decode cX2_readInto 10 = .ok (.iconst 0, 1) := by decide +kernel
theorem dX2_readInto_11 : decode cX2_readInto 11 = .ok (.putfield 27, 3) := by decide +kernel
theorem dX2_readInto_14 : decode cX2_readInto 14 = .ok (.aload_n 0, 1) := by decide +kernel
theorem dX2_readInto_15 : decode cX2_readInto 15 = .ok (.iconst 0, 1) := by decide +kernel
theorem dX2_readInto_16 : decode cX2_readInto 16 = .ok (.putfield 31, 3) := by decide +kernel
theorem dX2_readInto_19 : decode cX2_readInto 19 = .ok (.iconst 0, 1) := by decide +kernel
theorem dX2_readInto_20 : decode cX2_readInto 20 = .ok (.istore_n 2, 1) := by decide +kernel
theorem dX2_readInto_21 : decode cX2_readInto 21 = .ok (.aload_n 0, 1) := by decide +kernel
theorem dX2_readInto_22 : decode cX2_readInto 22 = .ok (.invokevirtual 34, 3) := by decide +kernel
theorem dX2_readInto_25 : decode cX2_readInto 25 = .ok (.iconst 0, 1) := by decide +kernel
theorem dX2_readInto_26 : decode cX2_readInto 26 = .ok (.istore_n 3, 1) := by decide +kernel
theorem dX2_readInto_27 : decode cX2_readInto 27 = .ok (.iload_n 3, 1) := by decide +kernel
theorem dX2_readInto_28 : decode cX2_readInto 28 = .ok (.sipush 200, 3) := by decide +kernel
theorem dX2_readInto_31 : decode cX2_readInto 31 = .ok (.if_icmp .ge 39, 3) := by decide +kernel
theorem dX2_readInto_34 : decode cX2_readInto 34 = .ok (.aload_n 0, 1) := by decide +kernel
theorem dX2_readInto_35 : decode cX2_readInto 35 = .ok (.getfield 37, 3) := by decide +kernel
theorem dX2_readInto_38 : decode cX2_readInto 38 = .ok (.ifCond .eq 32, 3) := by decide +kernel
theorem dX2_readInto_41 : decode cX2_readInto 41 = .ok (.aload_n 0, 1) := by decide +kernel
theorem dX2_readInto_42 : decode cX2_readInto 42 = .ok (.aload_n 1, 1) := by decide +kernel
theorem dX2_readInto_43 : decode cX2_readInto 43 = .ok (.invokevirtual 40, 3) := by decide +kernel
theorem dX2_readInto_46 : decode cX2_readInto 46 = .ok (.ifCond .ne 11, 3) := by decide +kernel
theorem dX2_readInto_49 : decode cX2_readInto 49 = .ok (.bipush (-10), 2) := by decide +kernel
theorem dX2_readInto_51 : decode cX2_readInto 51 = .ok (.aload_n 0, 1) := by decide +kernel
theorem dX2_readInto_52 : decode cX2_readInto 52 = .ok (.getfield 44, 3) := by decide +kernel
theorem dX2_readInto_55 : decode cX2_readInto 55 = .ok (.isub, 1) := by decide +kernel
theorem dX2_readInto_56 : decode cX2_readInto 56 = .ok (.ireturn, 1) := by decide +kernel
theorem dX2_readInto_57 : decode cX2_readInto 57 = .ok (.iinc 2 1, 3) := by decide +kernel
theorem dX2_readInto_60 : decode cX2_readInto 60 = .ok (.aload_n 0, 1) := by decide +kernel
theorem dX2_readInto_61 : decode cX2_readInto 61 = .ok (.invokevirtual 34, 3) := by decide +kernel
theorem dX2_readInto_64 : decode cX2_readInto 64 = .ok (.iinc 3 1, 3) := by decide +kernel
theorem dX2_readInto_67 : decode cX2_readInto 67 = .ok (.goto (-40), 3) := by decide +kernel
theorem dX2_readInto_70 : decode cX2_readInto 70 = .ok (.aload_n 1, 1) := by decide +kernel
theorem dX2_readInto_71 : decode cX2_readInto 71 = .ok (.invokevirtual 47, 3) := by decide +kernel
theorem dX2_readInto_74 : decode cX2_readInto 74 = .ok (.iload_n 2, 1) := by decide +kernel
theorem dX2_readInto_75 : decode cX2_readInto 75 = .ok (.ireturn, 1) := by decide +kernel
theorem dX2_readItem_0 : decode cX2_readItem 0 = .ok (.aload_n 0, 1) := by decide +kernel
theorem dX2_readItem_1 : decode cX2_readItem 1 = .ok (.getfield 37, 3) := by decide +kernel
theorem dX2_readItem_4 : decode cX2_readItem 4 = .ok (.iconst 1, 1) := by decide +kernel
theorem dX2_readItem_5 : decode cX2_readItem 5 = .ok (.if_icmp .ne 10, 3) := by decide +kernel
theorem dX2_readItem_8 : decode cX2_readItem 8 = .ok (.aload_n 0, 1) := by decide +kernel
theorem dX2_readItem_9 : decode cX2_readItem 9 = .ok (.getfield 50, 3) := by decide +kernel
theorem dX2_readItem_12 : decode cX2_readItem 12 = .ok (.goto 4, 3) := by decide +kernel
theorem dX2_readItem_15 : decode cX2_readItem 15 = .ok (.iconst 0, 1) := by decide +kernel
theorem dX2_readItem_16 : decode cX2_readItem 16 = .ok (.istore_n 2, 1) := by decide +kernel
theorem dX2_readItem_17 : decode cX2_readItem 17 = .ok (.aload_n 0, 1) := by decide +kernel
theorem dX2_readItem_18 : decode cX2_readItem 18 = .ok (.aload_n 1, 1) := by decide +kernel
theorem dX2_readItem_19 : decode cX2_readItem 19 = .ok (.iload_n 2, 1) := by decide +kernel
theorem dX2_readItem_20 : decode cX2_readItem 20 = .ok (.invokevirtual 53, 3) := by decide +kernel
theorem dX2_readItem_23 : decode cX2_readItem 23 = .ok (.ifCond .eq 14, 3) := by decide +kernel
theorem dX2_readItem_26 : decode cX2_readItem 26 = .ok (.aload_n 0, 1) := by decide +kernel
theorem dX2_readItem_27 : decode cX2_readItem 27 = .ok (.iload_n 2, 1) := by decide +kernel
theorem dX2_readItem_28 : decode cX2_readItem 28 = .ok (.invokestatic 57, 3) := by decide +kernel
theorem dX2_readItem_31 : decode cX2_readItem 31 = .ok (.invokevirtual 61, 3) := by decide +kernel
theorem dX2_readItem_34 : decode cX2_readItem 34 = .ok (.ifCond .ne 5, 3) := by decide +kernel
theorem dX2_readItem_37 : decode cX2_readItem 37 = .ok (.iconst 0, 1) := by decide +kernel
theorem dX2_readItem_38 : decode cX2_readItem 38 = .ok (.ireturn, 1) := by decide +kernel
theorem dX2_readItem_39 : decode cX2_readItem 39 = .ok (.aload_n 0, 1) := by decide +kernel
theorem dX2_readItem_40 : decode cX2_readItem 40 = .ok (.aload_n 1, 1) := by decide +kernel
theorem dX2_readItem_41 : decode cX2_readItem 41 = .ok (.iload_n 2, 1) := by decide +kernel
theorem dX2_readItem_42 : decode cX2_readItem 42 = .ok (.invokevirtual 65, 3) := by decide +kernel
theorem dX2_readItem_45 : decode cX2_readItem 45 = .ok (.iconst 1, 1) := by decide +kernel
theorem dX2_readItem_46 : decode cX2_readItem 46 = .ok (.ireturn, 1) := by decide +kernel
theorem dX2_mayBegin_0 : decode cX2_mayBegin 0 = .ok (.iload_n 2, 1) := by decide +kernel
theorem dX2_mayBegin_1 : decode cX2_mayBegin 1 = .ok (.lookupswitch 98 #[(99, 72), (104, 85), (116, 57), (119, 43)], 43) := by decide +kernel
theorem dX2_mayBegin_44 : decode cX2_mayBegin 44 = .ok (.aload_n 1, 1) := by decide +kernel
theorem dX2_mayBegin_45 : decode cX2_mayBegin 45 = .ok (.getfield 69, 3) := by decide +kernel
theorem dX2_mayBegin_48 : decode cX2_mayBegin 48 = .ok (.iconst 4, 1) := by decide +kernel
theorem dX2_mayBegin_49 : decode cX2_mayBegin 49 = .ok (.if_icmp .ge 7, 3) := by decide +kernel
theorem dX2_mayBegin_52 : decode cX2_mayBegin 52 = .ok (.iconst 1, 1) := by decide +kernel
theorem dX2_mayBegin_53 : decode cX2_mayBegin 53 = .ok (.goto 4, 3) := by decide +kernel
theorem dX2_mayBegin_56 : decode cX2_mayBegin 56 = .ok (.iconst 0, 1) := by decide +kernel
theorem dX2_mayBegin_57 : decode cX2_mayBegin 57 = .ok (.ireturn, 1) := by decide +kernel
theorem dX2_mayBegin_58 : decode cX2_mayBegin 58 = .ok (.aload_n 1, 1) := by decide +kernel
theorem dX2_mayBegin_59 : decode cX2_mayBegin 59 = .ok (.getfield 72, 3) := by decide +kernel
theorem dX2_mayBegin_62 : decode cX2_mayBegin 62 = .ok (.bipush 6, 2) := by decide +kernel
theorem dX2_mayBegin_64 : decode cX2_mayBegin 64 = .ok (.if_icmp .ge 7, 3) := by decide +kernel
theorem dX2_mayBegin_67 : decode cX2_mayBegin 67 = .ok (.iconst 1, 1) := by decide +kernel
theorem dX2_mayBegin_68 : decode cX2_mayBegin 68 = .ok (.goto 4, 3) := by decide +kernel
theorem dX2_mayBegin_71 : decode cX2_mayBegin 71 = .ok (.iconst 0, 1) := by decide +kernel
theorem dX2_mayBegin_72 : decode cX2_mayBegin 72 = .ok (.ireturn, 1) := by decide +kernel
theorem dX2_mayBegin_73 : decode cX2_mayBegin 73 = .ok (.aload_n 0, 1) := by decide +kernel
theorem dX2_mayBegin_74 : decode cX2_mayBegin 74 = .ok (.getfield 27, 3) := by decide +kernel
theorem dX2_mayBegin_77 : decode cX2_mayBegin 77 = .ok (.ifCond .ne 7, 3) := by decide +kernel
theorem dX2_mayBegin_80 : decode cX2_mayBegin 80 = .ok (.iconst 1, 1) := by decide +kernel
theorem dX2_mayBegin_81 : decode cX2_mayBegin 81 = .ok (.goto 4, 3) := by decide +kernel
theorem dX2_mayBegin_84 : decode cX2_mayBegin 84 = .ok (.iconst 0, 1) := by decide +kernel
theorem dX2_mayBegin_85 : decode cX2_mayBegin 85 = .ok (.ireturn, 1) := by decide +kernel
theorem dX2_mayBegin_86 : decode cX2_mayBegin 86 = .ok (.aload_n 0, 1) := by decide +kernel
theorem dX2_mayBegin_87 : decode cX2_mayBegin 87 = .ok (.getfield 31, 3) := by decide +kernel
theorem dX2_mayBegin_90 : decode cX2_mayBegin 90 = .ok (.ifCond .ne 7, 3) := by decide +kernel
theorem dX2_mayBegin_93 : decode cX2_mayBegin 93 = .ok (.iconst 1, 1) := by decide +kernel
theorem dX2_mayBegin_94 : decode cX2_mayBegin 94 = .ok (.goto 4, 3) := by decide +kernel
theorem dX2_mayBegin_97 : decode cX2_mayBegin 97 = .ok (.iconst 0, 1) := by decide +kernel
theorem dX2_mayBegin_98 : decode cX2_mayBegin 98 = .ok (.ireturn, 1) := by decide +kernel
theorem dX2_mayBegin_99 : decode cX2_mayBegin 99 = .ok (.iconst 0, 1) := by decide +kernel
theorem dX2_mayBegin_100 : decode cX2_mayBegin 100 = .ok (.ireturn, 1) := by decide +kernel
theorem dX2_boundsOf_0 : decode cX2_boundsOf 0 = .ok (.iload_n 0, 1) := by decide +kernel
theorem dX2_boundsOf_1 : decode cX2_boundsOf 1 = .ok (.lookupswitch 47 #[(99, 43), (116, 39), (119, 35)], 35) := by decide +kernel
theorem dX2_boundsOf_36 : decode cX2_boundsOf 36 = .ok (.getstatic 75, 3) := by decide +kernel
theorem dX2_boundsOf_39 : decode cX2_boundsOf 39 = .ok (.areturn, 1) := by decide +kernel
theorem dX2_boundsOf_40 : decode cX2_boundsOf 40 = .ok (.getstatic 78, 3) := by decide +kernel
theorem dX2_boundsOf_43 : decode cX2_boundsOf 43 = .ok (.areturn, 1) := by decide +kernel
theorem dX2_boundsOf_44 : decode cX2_boundsOf 44 = .ok (.getstatic 81, 3) := by decide +kernel
theorem dX2_boundsOf_47 : decode cX2_boundsOf 47 = .ok (.areturn, 1) := by decide +kernel
theorem dX2_boundsOf_48 : decode cX2_boundsOf 48 = .ok (.getstatic 84, 3) := by decide +kernel
theorem dX2_boundsOf_51 : decode cX2_boundsOf 51 = .ok (.areturn, 1) := by decide +kernel
theorem dX2_readNumbers_0 : decode cX2_readNumbers 0 = .ok (.iconst 0, 1) := by decide +kernel
theorem dX2_readNumbers_1 : decode cX2_readNumbers 1 = .ok (.istore_n 2, 1) := by decide +kernel
theorem dX2_readNumbers_2 : decode cX2_readNumbers 2 = .ok (.iload_n 2, 1) := by decide +kernel
theorem dX2_readNumbers_3 : decode cX2_readNumbers 3 = .ok (.aload_n 0, 1) := by decide +kernel
theorem dX2_readNumbers_4 : decode cX2_readNumbers 4 = .ok (.getfield 15, 3) := by decide +kernel
theorem dX2_readNumbers_7 : decode cX2_readNumbers 7 = .ok (.arraylength, 1) := by decide +kernel
theorem dX2_readNumbers_8 : decode cX2_readNumbers 8 = .ok (.if_icmp .ge 69, 3) := by decide +kernel
theorem dX2_readNumbers_11 : decode cX2_readNumbers 11 = .ok (.iconst 2, 1) := by decide +kernel
theorem dX2_readNumbers_12 : decode cX2_readNumbers 12 = .ok (.iload_n 2, 1) := by decide +kernel
theorem dX2_readNumbers_13 : decode cX2_readNumbers 13 = .ok (.imul, 1) := by decide +kernel
theorem dX2_readNumbers_14 : decode cX2_readNumbers 14 = .ok (.iconst 1, 1) := by decide +kernel
theorem dX2_readNumbers_15 : decode cX2_readNumbers 15 = .ok (.iadd, 1) := by decide +kernel
theorem dX2_readNumbers_16 : decode cX2_readNumbers 16 = .ok (.aload_n 1, 1) := by decide +kernel
theorem dX2_readNumbers_17 : decode cX2_readNumbers 17 = .ok (.arraylength, 1) := by decide +kernel
theorem dX2_readNumbers_18 : decode cX2_readNumbers 18 = .ok (.if_icmp .ge 59, 3) := by decide +kernel
theorem dX2_readNumbers_21 : decode cX2_readNumbers 21 = .ok (.aload_n 0, 1) := by decide +kernel
theorem dX2_readNumbers_22 : decode cX2_readNumbers 22 = .ok (.invokevirtual 34, 3) := by decide +kernel
theorem dX2_readNumbers_25 : decode cX2_readNumbers 25 = .ok (.aload_n 0, 1) := by decide +kernel
theorem dX2_readNumbers_26 : decode cX2_readNumbers 26 = .ok (.getfield 37, 3) := by decide +kernel
theorem dX2_readNumbers_29 : decode cX2_readNumbers 29 = .ok (.iconst 2, 1) := by decide +kernel
theorem dX2_readNumbers_30 : decode cX2_readNumbers 30 = .ok (.if_icmp .ne 29, 3) := by decide +kernel
theorem dX2_readNumbers_33 : decode cX2_readNumbers 33 = .ok (.aload_n 0, 1) := by decide +kernel
theorem dX2_readNumbers_34 : decode cX2_readNumbers 34 = .ok (.getfield 50, 3) := by decide +kernel
theorem dX2_readNumbers_37 : decode cX2_readNumbers 37 = .ok (.aload_n 1, 1) := by decide +kernel
theorem dX2_readNumbers_38 : decode cX2_readNumbers 38 = .ok (.iconst 2, 1) := by decide +kernel
theorem dX2_readNumbers_39 : decode cX2_readNumbers 39 = .ok (.iload_n 2, 1) := by decide +kernel
theorem dX2_readNumbers_40 : decode cX2_readNumbers 40 = .ok (.imul, 1) := by decide +kernel
theorem dX2_readNumbers_41 : decode cX2_readNumbers 41 = .ok (.iaload, 1) := by decide +kernel
theorem dX2_readNumbers_42 : decode cX2_readNumbers 42 = .ok (.if_icmp .lt 17, 3) := by decide +kernel
theorem dX2_readNumbers_45 : decode cX2_readNumbers 45 = .ok (.aload_n 0, 1) := by decide +kernel
theorem dX2_readNumbers_46 : decode cX2_readNumbers 46 = .ok (.getfield 50, 3) := by decide +kernel
theorem dX2_readNumbers_49 : decode cX2_readNumbers 49 = .ok (.aload_n 1, 1) := by decide +kernel
theorem dX2_readNumbers_50 : decode cX2_readNumbers 50 = .ok (.iconst 2, 1) := by decide +kernel
theorem dX2_readNumbers_51 : decode cX2_readNumbers 51 = .ok (.iload_n 2, 1) := by decide +kernel
theorem dX2_readNumbers_52 : decode cX2_readNumbers 52 = .ok (.imul, 1) := by decide +kernel
theorem dX2_readNumbers_53 : decode cX2_readNumbers 53 = .ok (.iconst 1, 1) := by decide +kernel
theorem dX2_readNumbers_54 : decode cX2_readNumbers 54 = .ok (.iadd, 1) := by decide +kernel
theorem dX2_readNumbers_55 : decode cX2_readNumbers 55 = .ok (.iaload, 1) := by decide +kernel
theorem dX2_readNumbers_56 : decode cX2_readNumbers 56 = .ok (.if_icmp .le 5, 3) := by decide +kernel
theorem dX2_readNumbers_59 : decode cX2_readNumbers 59 = .ok (.iconst 0, 1) := by decide +kernel
theorem dX2_readNumbers_60 : decode cX2_readNumbers 60 = .ok (.ireturn, 1) := by decide +kernel
theorem dX2_readNumbers_61 : decode cX2_readNumbers 61 = .ok (.aload_n 0, 1) := by decide +kernel
theorem dX2_readNumbers_62 : decode cX2_readNumbers 62 = .ok (.getfield 15, 3) := by decide +kernel
theorem dX2_readNumbers_65 : decode cX2_readNumbers 65 = .ok (.iload_n 2, 1) := by decide +kernel
theorem dX2_readNumbers_66 : decode cX2_readNumbers 66 = .ok (.aload_n 0, 1) := by decide +kernel
theorem dX2_readNumbers_67 : decode cX2_readNumbers 67 = .ok (.getfield 50, 3) := by decide +kernel
theorem dX2_readNumbers_70 : decode cX2_readNumbers 70 = .ok (.iastore, 1) := by decide +kernel
theorem dX2_readNumbers_71 : decode cX2_readNumbers 71 = .ok (.iinc 2 1, 3) := by decide +kernel
theorem dX2_readNumbers_74 : decode cX2_readNumbers 74 = .ok (.goto (-72), 3) := by decide +kernel
theorem dX2_readNumbers_77 : decode cX2_readNumbers 77 = .ok (.aload_n 0, 1) := by decide +kernel
theorem dX2_readNumbers_78 : decode cX2_readNumbers 78 = .ok (.invokevirtual 34, 3) := by decide +kernel
theorem dX2_readNumbers_81 : decode cX2_readNumbers 81 = .ok (.aload_n 0, 1) := by decide +kernel
theorem dX2_readNumbers_82 : decode cX2_readNumbers 82 = .ok (.getfield 37, 3) := by decide +kernel
theorem dX2_readNumbers_85 : decode cX2_readNumbers 85 = .ok (.iconst 3, 1) := by decide +kernel
theorem dX2_readNumbers_86 : decode cX2_readNumbers 86 = .ok (.if_icmp .ne 7, 3) := by decide +kernel
theorem dX2_readNumbers_89 : decode cX2_readNumbers 89 = .ok (.iconst 1, 1) := by decide +kernel
theorem dX2_readNumbers_90 : decode cX2_readNumbers 90 = .ok (.goto 4, 3) := by decide +kernel
theorem dX2_readNumbers_93 : decode cX2_readNumbers 93 = .ok (.iconst 0, 1) := by decide +kernel
theorem dX2_readNumbers_94 : decode cX2_readNumbers 94 = .ok (.ireturn, 1) := by decide +kernel
theorem dX2_tell_0 : decode cX2_tell 0 = .ok (.iload_n 2, 1) := by decide +kernel
theorem dX2_tell_1 : decode cX2_tell 1 = .ok (.lookupswitch 103 #[(99, 85), (116, 54), (119, 35)], 35) := by decide +kernel
theorem dX2_tell_36 : decode cX2_tell 36 = .ok (.aload_n 1, 1) := by decide +kernel
theorem dX2_tell_37 : decode cX2_tell 37 = .ok (.aload_n 0, 1) := by decide +kernel
theorem dX2_tell_38 : decode cX2_tell 38 = .ok (.getfield 15, 3) := by decide +kernel
theorem dX2_tell_41 : decode cX2_tell 41 = .ok (.iconst 0, 1) := by decide +kernel
theorem dX2_tell_42 : decode cX2_tell 42 = .ok (.iaload, 1) := by decide +kernel
theorem dX2_tell_43 : decode cX2_tell 43 = .ok (.aload_n 0, 1) := by decide +kernel
theorem dX2_tell_44 : decode cX2_tell 44 = .ok (.getfield 15, 3) := by decide +kernel
theorem dX2_tell_47 : decode cX2_tell 47 = .ok (.iconst 1, 1) := by decide +kernel
theorem dX2_tell_48 : decode cX2_tell 48 = .ok (.iaload, 1) := by decide +kernel
theorem dX2_tell_49 : decode cX2_tell 49 = .ok (.invokevirtual 87, 3) := by decide +kernel
theorem dX2_tell_52 : decode cX2_tell 52 = .ok (.goto 67, 3) := by decide +kernel
theorem dX2_tell_55 : decode cX2_tell 55 = .ok (.aload_n 1, 1) := by decide +kernel
theorem dX2_tell_56 : decode cX2_tell 56 = .ok (.aload_n 0, 1) := by decide +kernel
theorem dX2_tell_57 : decode cX2_tell 57 = .ok (.getfield 15, 3) := by decide +kernel
theorem dX2_tell_60 : decode cX2_tell 60 = .ok (.iconst 0, 1) := by decide +kernel
theorem dX2_tell_61 : decode cX2_tell 61 = .ok (.iaload, 1) := by decide +kernel
theorem dX2_tell_62 : decode cX2_tell 62 = .ok (.aload_n 0, 1) := by decide +kernel
theorem dX2_tell_63 : decode cX2_tell 63 = .ok (.getfield 15, 3) := by decide +kernel
theorem dX2_tell_66 : decode cX2_tell 66 = .ok (.iconst 1, 1) := by decide +kernel
theorem dX2_tell_67 : decode cX2_tell 67 = .ok (.iaload, 1) := by decide +kernel
theorem dX2_tell_68 : decode cX2_tell 68 = .ok (.aload_n 0, 1) := by decide +kernel
theorem dX2_tell_69 : decode cX2_tell 69 = .ok (.getfield 15, 3) := by decide +kernel
theorem dX2_tell_72 : decode cX2_tell 72 = .ok (.iconst 2, 1) := by decide +kernel
theorem dX2_tell_73 : decode cX2_tell 73 = .ok (.iaload, 1) := by decide +kernel
theorem dX2_tell_74 : decode cX2_tell 74 = .ok (.aload_n 0, 1) := by decide +kernel
theorem dX2_tell_75 : decode cX2_tell 75 = .ok (.getfield 15, 3) := by decide +kernel
theorem dX2_tell_78 : decode cX2_tell 78 = .ok (.iconst 3, 1) := by decide +kernel
theorem dX2_tell_79 : decode cX2_tell 79 = .ok (.iaload, 1) := by decide +kernel
theorem dX2_tell_80 : decode cX2_tell 80 = .ok (.invokevirtual 91, 3) := by decide +kernel
theorem dX2_tell_83 : decode cX2_tell 83 = .ok (.goto 36, 3) := by decide +kernel
theorem dX2_tell_86 : decode cX2_tell 86 = .ok (.aload_n 0, 1) := by decide +kernel
theorem dX2_tell_87 : decode cX2_tell 87 = .ok (.iconst 1, 1) := by decide +kernel
theorem dX2_tell_88 : decode cX2_tell 88 = .ok (.putfield 27, 3) := by decide +kernel
theorem dX2_tell_91 : decode cX2_tell 91 = .ok (.aload_n 1, 1) := by decide +kernel
theorem dX2_tell_92 : decode cX2_tell 92 = .ok (.aload_n 0, 1) := by decide +kernel
theorem dX2_tell_93 : decode cX2_tell 93 = .ok (.getfield 15, 3) := by decide +kernel
theorem dX2_tell_96 : decode cX2_tell 96 = .ok (.iconst 0, 1) := by decide +kernel
theorem dX2_tell_97 : decode cX2_tell 97 = .ok (.iaload, 1) := by decide +kernel
theorem dX2_tell_98 : decode cX2_tell 98 = .ok (.putfield 95, 3) := by decide +kernel
theorem dX2_tell_101 : decode cX2_tell 101 = .ok (.goto 18, 3) := by decide +kernel
theorem dX2_tell_104 : decode cX2_tell 104 = .ok (.aload_n 0, 1) := by decide +kernel
theorem dX2_tell_105 : decode cX2_tell 105 = .ok (.iconst 1, 1) := by decide +kernel
theorem dX2_tell_106 : decode cX2_tell 106 = .ok (.putfield 31, 3) := by decide +kernel
theorem dX2_tell_109 : decode cX2_tell 109 = .ok (.aload_n 1, 1) := by decide +kernel
theorem dX2_tell_110 : decode cX2_tell 110 = .ok (.aload_n 0, 1) := by decide +kernel
theorem dX2_tell_111 : decode cX2_tell 111 = .ok (.getfield 15, 3) := by decide +kernel
theorem dX2_tell_114 : decode cX2_tell 114 = .ok (.iconst 0, 1) := by decide +kernel
theorem dX2_tell_115 : decode cX2_tell 115 = .ok (.iaload, 1) := by decide +kernel
theorem dX2_tell_116 : decode cX2_tell 116 = .ok (.putfield 98, 3) := by decide +kernel
theorem dX2_tell_119 : decode cX2_tell 119 = .ok (.return_, 1) := by decide +kernel
theorem dX2_nextToken_0 : decode cX2_nextToken 0 = .ok (.aload_n 0, 1) := by decide +kernel
theorem dX2_nextToken_1 : decode cX2_nextToken 1 = .ok (.getfield 23, 3) := by decide +kernel
theorem dX2_nextToken_4 : decode cX2_nextToken 4 = .ok (.aload_n 0, 1) := by decide +kernel
theorem dX2_nextToken_5 : decode cX2_nextToken 5 = .ok (.getfield 101, 3) := by decide +kernel
theorem dX2_nextToken_8 : decode cX2_nextToken 8 = .ok (.if_icmp .ge 30, 3) := by decide +kernel
theorem dX2_nextToken_11 : decode cX2_nextToken 11 = .ok (.aload_n 0, 1) := by decide +kernel
theorem dX2_nextToken_12 : decode cX2_nextToken 12 = .ok (.getfield 9, 3) := by decide +kernel
theorem dX2_nextToken_15 : decode cX2_nextToken 15 = .ok (.aload_n 0, 1) := by decide +kernel
theorem dX2_nextToken_16 : decode cX2_nextToken 16 = .ok (.getfield 23, 3) := by decide +kernel
theorem dX2_nextToken_19 : decode cX2_nextToken 19 = .ok (.iaload, 1) := by decide +kernel
theorem dX2_nextToken_20 : decode cX2_nextToken 20 = .ok (.bipush 32, 2) := by decide +kernel
theorem dX2_nextToken_22 : decode cX2_nextToken 22 = .ok (.if_icmp .ne 16, 3) := by decide +kernel
theorem dX2_nextToken_25 : decode cX2_nextToken 25 = .ok (.aload_n 0, 1) := by decide +kernel
theorem dX2_nextToken_26 : decode cX2_nextToken 26 = .ok (.dup, 1) := by decide +kernel
theorem dX2_nextToken_27 : decode cX2_nextToken 27 = .ok (.getfield 23, 3) := by decide +kernel
theorem dX2_nextToken_30 : decode cX2_nextToken 30 = .ok (.iconst 1, 1) := by decide +kernel
theorem dX2_nextToken_31 : decode cX2_nextToken 31 = .ok (.iadd, 1) := by decide +kernel
theorem dX2_nextToken_32 : decode cX2_nextToken 32 = .ok (.putfield 23, 3) := by decide +kernel
theorem dX2_nextToken_35 : decode cX2_nextToken 35 = .ok (.goto (-35), 3) := by decide +kernel
theorem dX2_nextToken_38 : decode cX2_nextToken 38 = .ok (.aload_n 0, 1) := by decide +kernel
theorem dX2_nextToken_39 : decode cX2_nextToken 39 = .ok (.aload_n 0, 1) := by decide +kernel
theorem dX2_nextToken_40 : decode cX2_nextToken 40 = .ok (.getfield 23, 3) := by decide +kernel
theorem dX2_nextToken_43 : decode cX2_nextToken 43 = .ok (.putfield 44, 3) := by decide +kernel
theorem dX2_nextToken_46 : decode cX2_nextToken 46 = .ok (.aload_n 0, 1) := by decide +kernel
theorem dX2_nextToken_47 : decode cX2_nextToken 47 = .ok (.iconst 0, 1) := by decide +kernel
theorem dX2_nextToken_48 : decode cX2_nextToken 48 = .ok (.putfield 50, 3) := by decide +kernel
theorem dX2_nextToken_51 : decode cX2_nextToken 51 = .ok (.aload_n 0, 1) := by decide +kernel
theorem dX2_nextToken_52 : decode cX2_nextToken 52 = .ok (.getfield 23, 3) := by decide +kernel
theorem dX2_nextToken_55 : decode cX2_nextToken 55 = .ok (.aload_n 0, 1) := by decide +kernel
theorem dX2_nextToken_56 : decode cX2_nextToken 56 = .ok (.getfield 101, 3) := by decide +kernel
theorem dX2_nextToken_59 : decode cX2_nextToken 59 = .ok (.if_icmp .lt 11, 3) := by decide +kernel
theorem dX2_nextToken_62 : decode cX2_nextToken 62 = .ok (.aload_n 0, 1) := by decide +kernel
theorem dX2_nextToken_63 : decode cX2_nextToken 63 = .ok (.iconst 0, 1) := by decide +kernel
theorem dX2_nextToken_64 : decode cX2_nextToken 64 = .ok (.putfield 37, 3) := by decide +kernel
theorem dX2_nextToken_67 : decode cX2_nextToken 67 = .ok (.goto 80, 3) := by decide +kernel
theorem dX2_nextToken_70 : decode cX2_nextToken 70 = .ok (.aload_n 0, 1) := by decide +kernel
theorem dX2_nextToken_71 : decode cX2_nextToken 71 = .ok (.getfield 9, 3) := by decide +kernel
theorem dX2_nextToken_74 : decode cX2_nextToken 74 = .ok (.aload_n 0, 1) := by decide +kernel
theorem dX2_nextToken_75 : decode cX2_nextToken 75 = .ok (.getfield 23, 3) := by decide +kernel
theorem dX2_nextToken_78 : decode cX2_nextToken 78 = .ok (.iaload, 1) := by decide +kernel
theorem dX2_nextToken_79 : decode cX2_nextToken 79 = .ok (.invokestatic 104, 3) := by decide +kernel
theorem dX2_nextToken_82 : decode cX2_nextToken 82 = .ok (.ifCond .eq 10, 3) := by decide +kernel
theorem dX2_nextToken_85 : decode cX2_nextToken 85 = .ok (.aload_n 0, 1) := by decide +kernel
theorem dX2_nextToken_86 : decode cX2_nextToken 86 = .ok (.invokevirtual 108, 3) := by decide +kernel
theorem dX2_nextToken_89 : decode cX2_nextToken 89 = .ok (.goto 58, 3) := by decide +kernel
theorem dX2_nextToken_92 : decode cX2_nextToken 92 = .ok (.aload_n 0, 1) := by decide +kernel
theorem dX2_nextToken_93 : decode cX2_nextToken 93 = .ok (.getfield 9, 3) := by decide +kernel
theorem dX2_nextToken_96 : decode cX2_nextToken 96 = .ok (.aload_n 0, 1) := by decide +kernel
theorem dX2_nextToken_97 : decode cX2_nextToken 97 = .ok (.getfield 23, 3) := by decide +kernel
theorem dX2_nextToken_100 : decode cX2_nextToken 100 = .ok (.iaload, 1) := by decide +kernel
theorem dX2_nextToken_101 : decode cX2_nextToken 101 = .ok (.invokestatic 111, 3) := by decide +kernel
theorem dX2_nextToken_104 : decode cX2_nextToken 104 = .ok (.ifCond .eq 10, 3) := by decide +kernel
theorem dX2_nextToken_107 : decode cX2_nextToken 107 = .ok (.aload_n 0, 1) := by decide +kernel
theorem dX2_nextToken_108 : decode cX2_nextToken 108 = .ok (.invokevirtual 114, 3) := by decide +kernel
theorem dX2_nextToken_111 : decode cX2_nextToken 111 = .ok (.goto 36, 3) := by decide +kernel
theorem dX2_nextToken_114 : decode cX2_nextToken 114 = .ok (.aload_n 0, 1) := by decide +kernel
theorem dX2_nextToken_115 : decode cX2_nextToken 115 = .ok (.aload_n 0, 1) := by decide +kernel
theorem dX2_nextToken_116 : decode cX2_nextToken 116 = .ok (.getfield 9, 3) := by decide +kernel
theorem dX2_nextToken_119 : decode cX2_nextToken 119 = .ok (.aload_n 0, 1) := by decide +kernel
theorem dX2_nextToken_120 : decode cX2_nextToken 120 = .ok (.getfield 23, 3) := by decide +kernel
theorem dX2_nextToken_123 : decode cX2_nextToken 123 = .ok (.iaload, 1) := by decide +kernel
theorem dX2_nextToken_124 : decode cX2_nextToken 124 = .ok (.bipush 59, 2) := by decide +kernel
theorem dX2_nextToken_126 : decode cX2_nextToken 126 = .ok (.if_icmp .ne 7, 3) := by decide +kernel
theorem dX2_nextToken_129 : decode cX2_nextToken 129 = .ok (.iconst 3, 1) := by decide +kernel
theorem dX2_nextToken_130 : decode cX2_nextToken 130 = .ok (.goto 4, 3) := by decide +kernel
theorem dX2_nextToken_133 : decode cX2_nextToken 133 = .ok (.iconst 4, 1) := by decide +kernel
theorem dX2_nextToken_134 : decode cX2_nextToken 134 = .ok (.putfield 37, 3) := by decide +kernel
theorem dX2_nextToken_137 : decode cX2_nextToken 137 = .ok (.aload_n 0, 1) := by decide +kernel
theorem dX2_nextToken_138 : decode cX2_nextToken 138 = .ok (.dup, 1) := by decide +kernel
theorem dX2_nextToken_139 : decode cX2_nextToken 139 = .ok (.getfield 23, 3) := by decide +kernel
theorem dX2_nextToken_142 : decode cX2_nextToken 142 = .ok (.iconst 1, 1) := by decide +kernel
theorem dX2_nextToken_143 : decode cX2_nextToken 143 = .ok (.iadd, 1) := by decide +kernel
theorem dX2_nextToken_144 : decode cX2_nextToken 144 = .ok (.putfield 23, 3) := by decide +kernel
theorem dX2_nextToken_147 : decode cX2_nextToken 147 = .ok (.return_, 1) := by decide +kernel
theorem dX2_takeLetters_0 : decode cX2_takeLetters 0 = .ok (.aload_n 0, 1) := by decide +kernel
theorem dX2_takeLetters_1 : decode cX2_takeLetters 1 = .ok (.iconst 1, 1) := by decide +kernel
theorem dX2_takeLetters_2 : decode cX2_takeLetters 2 = .ok (.putfield 37, 3) := by decide +kernel
theorem dX2_takeLetters_5 : decode cX2_takeLetters 5 = .ok (.aload_n 0, 1) := by decide +kernel
theorem dX2_takeLetters_6 : decode cX2_takeLetters 6 = .ok (.getfield 23, 3) := by decide +kernel
theorem dX2_takeLetters_9 : decode cX2_takeLetters 9 = .ok (.aload_n 0, 1) := by decide +kernel
theorem dX2_takeLetters_10 : decode cX2_takeLetters 10 = .ok (.getfield 101, 3) := by decide +kernel
theorem dX2_takeLetters_13 : decode cX2_takeLetters 13 = .ok (.if_icmp .ge 31, 3) := by decide +kernel
theorem dX2_takeLetters_16 : decode cX2_takeLetters 16 = .ok (.aload_n 0, 1) := by decide +kernel
theorem dX2_takeLetters_17 : decode cX2_takeLetters 17 = .ok (.getfield 9, 3) := by decide +kernel
theorem dX2_takeLetters_20 : decode cX2_takeLetters 20 = .ok (.aload_n 0, 1) := by decide +kernel
theorem dX2_takeLetters_21 : decode cX2_takeLetters 21 = .ok (.getfield 23, 3) := by decide +kernel
theorem dX2_takeLetters_24 : decode cX2_takeLetters 24 = .ok (.iaload, 1) := by decide +kernel
theorem dX2_takeLetters_25 : decode cX2_takeLetters 25 = .ok (.invokestatic 104, 3) := by decide +kernel
theorem dX2_takeLetters_28 : decode cX2_takeLetters 28 = .ok (.ifCond .eq 16, 3) := by decide +kernel
theorem dX2_takeLetters_31 : decode cX2_takeLetters 31 = .ok (.aload_n 0, 1) := by decide +kernel
theorem dX2_takeLetters_32 : decode cX2_takeLetters 32 = .ok (.dup, 1) := by decide +kernel
theorem dX2_takeLetters_33 : decode cX2_takeLetters 33 = .ok (.getfield 23, 3) := by decide +kernel
theorem dX2_takeLetters_36 : decode cX2_takeLetters 36 = .ok (.iconst 1, 1) := by decide +kernel
theorem dX2_takeLetters_37 : decode cX2_takeLetters 37 = .ok (.iadd, 1) := by decide +kernel
theorem dX2_takeLetters_38 : decode cX2_takeLetters 38 = .ok (.putfield 23, 3) := by decide +kernel
theorem dX2_takeLetters_41 : decode cX2_takeLetters 41 = .ok (.goto (-36), 3) := by decide +kernel
theorem dX2_takeLetters_44 : decode cX2_takeLetters 44 = .ok (.aload_n 0, 1) := by decide +kernel
theorem dX2_takeLetters_45 : decode cX2_takeLetters 45 = .ok (.aload_n 0, 1) := by decide +kernel
theorem dX2_takeLetters_46 : decode cX2_takeLetters 46 = .ok (.getfield 23, 3) := by decide +kernel
theorem dX2_takeLetters_49 : decode cX2_takeLetters 49 = .ok (.aload_n 0, 1) := by decide +kernel
theorem dX2_takeLetters_50 : decode cX2_takeLetters 50 = .ok (.getfield 44, 3) := by decide +kernel
theorem dX2_takeLetters_53 : decode cX2_takeLetters 53 = .ok (.iconst 1, 1) := by decide +kernel
theorem dX2_takeLetters_54 : decode cX2_takeLetters 54 = .ok (.iadd, 1) := by decide +kernel
theorem dX2_takeLetters_55 : decode cX2_takeLetters 55 = .ok (.if_icmp .ne 15, 3) := by decide +kernel
theorem dX2_takeLetters_58 : decode cX2_takeLetters 58 = .ok (.aload_n 0, 1) := by decide +kernel
theorem dX2_takeLetters_59 : decode cX2_takeLetters 59 = .ok (.getfield 9, 3) := by decide +kernel
theorem dX2_takeLetters_62 : decode cX2_takeLetters 62 = .ok (.aload_n 0, 1) := by decide +kernel
theorem dX2_takeLetters_63 : decode cX2_takeLetters 63 = .ok (.getfield 44, 3) := by decide +kernel
theorem dX2_takeLetters_66 : decode cX2_takeLetters 66 = .ok (.iaload, 1) := by decide +kernel
theorem dX2_takeLetters_67 : decode cX2_takeLetters 67 = .ok (.goto 4, 3) := by decide +kernel
theorem dX2_takeLetters_70 : decode cX2_takeLetters 70 = .ok (.iconst 0, 1) := by decide +kernel
theorem dX2_takeLetters_71 : decode cX2_takeLetters 71 = .ok (.putfield 50, 3) := by decide +kernel
theorem dX2_takeLetters_74 : decode cX2_takeLetters 74 = .ok (.return_, 1) := by decide +kernel
theorem dX2_takeNumber_0 : decode cX2_takeNumber 0 = .ok (.aload_n 0, 1) := by decide +kernel
theorem dX2_takeNumber_1 : decode cX2_takeNumber 1 = .ok (.getfield 23, 3) := by decide +kernel
theorem dX2_takeNumber_4 : decode cX2_takeNumber 4 = .ok (.aload_n 0, 1) := by decide +kernel
theorem dX2_takeNumber_5 : decode cX2_takeNumber 5 = .ok (.getfield 101, 3) := by decide +kernel
theorem dX2_takeNumber_8 : decode cX2_takeNumber 8 = .ok (.if_icmp .ge 60, 3) := by decide +kernel
theorem dX2_takeNumber_11 : decode cX2_takeNumber 11 = .ok (.aload_n 0, 1) := by decide +kernel
theorem dX2_takeNumber_12 : decode cX2_takeNumber 12 = .ok (.getfield 9, 3) := by decide +kernel
theorem dX2_takeNumber_15 : decode cX2_takeNumber 15 = .ok (.aload_n 0, 1) := by decide +kernel
theorem dX2_takeNumber_16 : decode cX2_takeNumber 16 = .ok (.getfield 23, 3) := by decide +kernel
theorem dX2_takeNumber_19 : decode cX2_takeNumber 19 = .ok (.iaload, 1) := by decide +kernel
theorem dX2_takeNumber_20 : decode cX2_takeNumber 20 = .ok (.invokestatic 111, 3) := by decide +kernel
theorem dX2_takeNumber_23 : decode cX2_takeNumber 23 = .ok (.ifCond .eq 45, 3) := by decide +kernel
theorem dX2_takeNumber_26 : decode cX2_takeNumber 26 = .ok (.aload_n 0, 1) := by decide +kernel
theorem dX2_takeNumber_27 : decode cX2_takeNumber 27 = .ok (.aload_n 0, 1) := by decide +kernel
theorem dX2_takeNumber_28 : decode cX2_takeNumber 28 = .ok (.getfield 50, 3) := by decide +kernel
theorem dX2_takeNumber_31 : decode cX2_takeNumber 31 = .ok (.bipush 10, 2) := by decide +kernel
theorem dX2_takeNumber_33 : decode cX2_takeNumber 33 = .ok (.imul, 1) := by decide +kernel
theorem dX2_takeNumber_34 : decode cX2_takeNumber 34 = .ok (.aload_n 0, 1) := by decide +kernel
theorem dX2_takeNumber_35 : decode cX2_takeNumber 35 = .ok (.getfield 9, 3) := by decide +kernel
theorem dX2_takeNumber_38 : decode cX2_takeNumber 38 = .ok (.aload_n 0, 1) := by decide +kernel
theorem dX2_takeNumber_39 : decode cX2_takeNumber 39 = .ok (.getfield 23, 3) := by decide +kernel
theorem dX2_takeNumber_42 : decode cX2_takeNumber 42 = .ok (.iaload, 1) := by decide +kernel
theorem dX2_takeNumber_43 : decode cX2_takeNumber 43 = .ok (.iadd, 1) := by decide +kernel
theorem dX2_takeNumber_44 : decode cX2_takeNumber 44 = .ok (.bipush 48, 2) := by decide +kernel
theorem dX2_takeNumber_46 : decode cX2_takeNumber 46 = .ok (.isub, 1) := by decide +kernel
theorem dX2_takeNumber_47 : decode cX2_takeNumber 47 = .ok (.bipush 100, 2) := by decide +kernel
theorem dX2_takeNumber_49 : decode cX2_takeNumber 49 = .ok (.invokestatic 117, 3) := by decide +kernel
theorem dX2_takeNumber_52 : decode cX2_takeNumber 52 = .ok (.putfield 50, 3) := by decide +kernel
theorem dX2_takeNumber_55 : decode cX2_takeNumber 55 = .ok (.aload_n 0, 1) := by decide +kernel
theorem dX2_takeNumber_56 : decode cX2_takeNumber 56 = .ok (.dup, 1) := by decide +kernel
theorem dX2_takeNumber_57 : decode cX2_takeNumber 57 = .ok (.getfield 23, 3) := by decide +kernel
theorem dX2_takeNumber_60 : decode cX2_takeNumber 60 = .ok (.iconst 1, 1) := by decide +kernel
theorem dX2_takeNumber_61 : decode cX2_takeNumber 61 = .ok (.iadd, 1) := by decide +kernel
theorem dX2_takeNumber_62 : decode cX2_takeNumber 62 = .ok (.putfield 23, 3) := by decide +kernel
theorem dX2_takeNumber_65 : decode cX2_takeNumber 65 = .ok (.goto (-65), 3) := by decide +kernel
theorem dX2_takeNumber_68 : decode cX2_takeNumber 68 = .ok (.aload_n 0, 1) := by decide +kernel
theorem dX2_takeNumber_69 : decode cX2_takeNumber 69 = .ok (.getfield 9, 3) := by decide +kernel
theorem dX2_takeNumber_72 : decode cX2_takeNumber 72 = .ok (.aload_n 0, 1) := by decide +kernel
theorem dX2_takeNumber_73 : decode cX2_takeNumber 73 = .ok (.getfield 44, 3) := by decide +kernel
theorem dX2_takeNumber_76 : decode cX2_takeNumber 76 = .ok (.iaload, 1) := by decide +kernel
theorem dX2_takeNumber_77 : decode cX2_takeNumber 77 = .ok (.bipush 48, 2) := by decide +kernel
theorem dX2_takeNumber_79 : decode cX2_takeNumber 79 = .ok (.if_icmp .ne 20, 3) := by decide +kernel
theorem dX2_takeNumber_82 : decode cX2_takeNumber 82 = .ok (.aload_n 0, 1) := by decide +kernel
theorem dX2_takeNumber_83 : decode cX2_takeNumber 83 = .ok (.getfield 23, 3) := by decide +kernel
theorem dX2_takeNumber_86 : decode cX2_takeNumber 86 = .ok (.aload_n 0, 1) := by decide +kernel
theorem dX2_takeNumber_87 : decode cX2_takeNumber 87 = .ok (.getfield 44, 3) := by decide +kernel
theorem dX2_takeNumber_90 : decode cX2_takeNumber 90 = .ok (.iconst 1, 1) := by decide +kernel
theorem dX2_takeNumber_91 : decode cX2_takeNumber 91 = .ok (.iadd, 1) := by decide +kernel
theorem dX2_takeNumber_92 : decode cX2_takeNumber 92 = .ok (.if_icmp .le 7, 3) := by decide +kernel
theorem dX2_takeNumber_95 : decode cX2_takeNumber 95 = .ok (.iconst 1, 1) := by decide +kernel
theorem dX2_takeNumber_96 : decode cX2_takeNumber 96 = .ok (.goto 4, 3) := by decide +kernel
theorem dX2_takeNumber_99 : decode cX2_takeNumber 99 = .ok (.iconst 0, 1) := by decide +kernel
theorem dX2_takeNumber_100 : decode cX2_takeNumber 100 = .ok (.istore_n 1, 1) := by decide +kernel
theorem dX2_takeNumber_101 : decode cX2_takeNumber 101 = .ok (.aload_n 0, 1) := by decide +kernel
theorem dX2_takeNumber_102 : decode cX2_takeNumber 102 = .ok (.iload_n 1, 1) := by decide +kernel
theorem dX2_takeNumber_103 : decode cX2_takeNumber 103 = .ok (.ifCond .ne 12, 3) := by decide +kernel
theorem dX2_takeNumber_106 : decode cX2_takeNumber 106 = .ok (.aload_n 0, 1) := by decide +kernel
theorem dX2_takeNumber_107 : decode cX2_takeNumber 107 = .ok (.getfield 50, 3) := by decide +kernel
theorem dX2_takeNumber_110 : decode cX2_takeNumber 110 = .ok (.bipush 99, 2) := by decide +kernel
theorem dX2_takeNumber_112 : decode cX2_takeNumber 112 = .ok (.if_icmp .le 7, 3) := by decide +kernel
theorem dX2_takeNumber_115 : decode cX2_takeNumber 115 = .ok (.iconst 4, 1) := by decide +kernel
theorem dX2_takeNumber_116 : decode cX2_takeNumber 116 = .ok (.goto 4, 3) := by decide +kernel
theorem dX2_takeNumber_119 : decode cX2_takeNumber 119 = .ok (.iconst 2, 1) := by decide +kernel
theorem dX2_takeNumber_120 : decode cX2_takeNumber 120 = .ok (.putfield 37, 3) := by decide +kernel
theorem dX2_takeNumber_123 : decode cX2_takeNumber 123 = .ok (.return_, 1) := by decide +kernel
theorem dX2_isLetter_0 : decode cX2_isLetter 0 = .ok (.iload_n 0, 1) := by decide +kernel
theorem dX2_isLetter_1 : decode cX2_isLetter 1 = .ok (.bipush 97, 2) := by decide +kernel
theorem dX2_isLetter_3 : decode cX2_isLetter 3 = .ok (.if_icmp .lt 13, 3) := by decide +kernel
theorem dX2_isLetter_6 : decode cX2_isLetter 6 = .ok (.iload_n 0, 1) := by decide +kernel
theorem dX2_isLetter_7 : decode cX2_isLetter 7 = .ok (.bipush 122, 2) := by decide +kernel
theorem dX2_isLetter_9 : decode cX2_isLetter 9 = .ok (.if_icmp .gt 7, 3) := by decide +kernel
theorem dX2_isLetter_12 : decode cX2_isLetter 12 = .ok (.iconst 1, 1) := by decide +kernel
theorem dX2_isLetter_13 : decode cX2_isLetter 13 = .ok (.goto 4, 3) := by decide +kernel
theorem dX2_isLetter_16 : decode cX2_isLetter 16 = .ok (.iconst 0, 1) := by decide +kernel
theorem dX2_isLetter_17 : decode cX2_isLetter 17 = .ok (.ireturn, 1) := by decide +kernel
theorem dX2_isDigit_0 : decode cX2_isDigit 0 = .ok (.iload_n 0, 1) := by decide +kernel
theorem dX2_isDigit_1 : decode cX2_isDigit 1 = .ok (.bipush 48, 2) := by decide +kernel
theorem dX2_isDigit_3 : decode cX2_isDigit 3 = .ok (.if_icmp .lt 13, 3) := by decide +kernel
theorem dX2_isDigit_6 : decode cX2_isDigit 6 = .ok (.iload_n 0, 1) := by decide +kernel
theorem dX2_isDigit_7 : decode cX2_isDigit 7 = .ok (.bipush 57, 2) := by decide +kernel
theorem dX2_isDigit_9 : decode cX2_isDigit 9 = .ok (.if_icmp .gt 7, 3) := by decide +kernel
theorem dX2_isDigit_12 : decode cX2_isDigit 12 = .ok (.iconst 1, 1) := by decide +kernel
theorem dX2_isDigit_13 : decode cX2_isDigit 13 = .ok (.goto 4, 3) := by decide +kernel
theorem dX2_isDigit_16 : decode cX2_isDigit 16 = .ok (.iconst 0, 1) := by decide +kernel
theorem dX2_isDigit_17 : decode cX2_isDigit 17 = .ok (.ireturn, 1) := by decide +kernel
theorem dX3_init_0 : decode cX3_init 0 = .ok (.aload_n 0, 1) := by decide +kernel
theorem dX3_init_1 : decode cX3_init 1 = .ok (.invokespecial 3, 3) := by decide +kernel
theorem dX3_init_4 : decode cX3_init 4 = .ok (.aload_n 0, 1) := by decide +kernel
theorem dX3_init_5 : decode cX3_init 5 = .ok (.bipush 6, 2) := by decide +kernel
theorem dX3_init_7 : decode cX3_init 7 = .ok (.newarray .int, 2) := by decide +kernel
theorem dX3_init_9 : decode cX3_init 9 = .ok (.putfield 9, 3) := by decide +kernel
theorem dX3_init_12 : decode cX3_init 12 = .ok (.aload_n 0, 1) := by decide +kernel
theorem dX3_init_13 : decode cX3_init 13 = .ok (.bipush 6, 2) := by decide +kernel
theorem dX3_init_15 : decode cX3_init 15 = .ok (.newarray .int, 2) := by decide +kernel
theorem dX3_init_17 : decode cX3_init 17 = .ok (.putfield 15, 3) := by decide +kernel
theorem dX3_init_20 : decode cX3_init 20 = .ok (.aload_n 0, 1) := by decide +kernel
theorem dX3_init_21 : decode cX3_init 21 = .ok (.bipush 6, 2) := by decide +kernel
theorem dX3_init_23 : decode cX3_init 23 = .ok (.newarray .int, 2) := by decide +kernel
theorem dX3_init_25 : decode cX3_init 25 = .ok (.putfield 18, 3) := by decide +kernel
theorem dX3_init_28 : decode cX3_init 28 = .ok (.aload_n 0, 1) := by decide +kernel
theorem dX3_init_29 : decode cX3_init 29 = .ok (.bipush 6, 2) := by decide +kernel
theorem dX3_init_31 : decode cX3_init 31 = .ok (.newarray .int, 2) := by decide +kernel
theorem dX3_init_33 : decode cX3_init 33 = .ok (.putfield 21, 3) := by decide +kernel
theorem dX3_init_36 : decode cX3_init 36 = .ok (.aload_n 0, 1) := by decide +kernel
theorem dX3_init_37 : decode cX3_init 37 = .ok (.bipush 6, 2) := by decide +kernel
theorem dX3_init_39 : decode cX3_init 39 = .ok (.newarray .int, 2) := by decide +kernel
theorem dX3_init_41 : decode cX3_init 41 = .ok (.putfield 24, 3) := by decide +kernel
theorem dX3_init_44 : decode cX3_init 44 = .ok (.aload_n 0, 1) := by decide +kernel
theorem dX3_init_45 : decode cX3_init 45 = .ok (.bipush 6, 2) := by decide +kernel
theorem dX3_init_47 : decode cX3_init 47 = .ok (.newarray .int, 2) := by decide +kernel
theorem dX3_init_49 : decode cX3_init 49 = .ok (.putfield 27, 3) := by decide +kernel
theorem dX3_init_52 : decode cX3_init 52 = .ok (.aload_n 0, 1) := by decide +kernel
theorem dX3_init_53 : decode cX3_init 53 = .ok (.bipush 7, 2) := by decide +kernel
theorem dX3_init_55 : decode cX3_init 55 = .ok (.anewarray 30, 3) := by decide +kernel
theorem dX3_init_58 : decode cX3_init 58 = .ok (.putfield 32, 3) := by decide +kernel
theorem dX3_init_61 : decode cX3_init 61 = .ok (.iconst 0, 1) := by decide +kernel
theorem dX3_init_62 : decode cX3_init 62 = .ok (.istore_n 1, 1) := by decide +kernel
theorem dX3_init_63 : decode cX3_init 63 = .ok (.iload_n 1, 1) := by decide +kernel
theorem dX3_init_64 : decode cX3_init 64 = .ok (.bipush 6, 2) := by decide +kernel
theorem dX3_init_66 : decode cX3_init 66 = .ok (.if_icmp .gt 22, 3) := by decide +kernel
theorem dX3_init_69 : decode cX3_init 69 = .ok (.aload_n 0, 1) := by decide +kernel
theorem dX3_init_70 : decode cX3_init 70 = .ok (.getfield 32, 3) := by decide +kernel
theorem dX3_init_73 : decode cX3_init 73 = .ok (.iload_n 1, 1) := by decide +kernel
theorem dX3_init_74 : decode cX3_init 74 = .ok (.new 30, 3) := by decide +kernel
theorem dX3_init_77 : decode cX3_init 77 = .ok (.dup, 1) := by decide +kernel
theorem dX3_init_78 : decode cX3_init 78 = .ok (.invokespecial 36, 3) := by decide +kernel
theorem dX3_init_81 : decode cX3_init 81 = .ok (.aastore, 1) := by decide +kernel
theorem dX3_init_82 : decode cX3_init 82 = .ok (.iinc 1 1, 3) := by decide +kernel
theorem dX3_init_85 : decode cX3_init 85 = .ok (.goto (-22), 3) := by decide +kernel
theorem dX3_init_88 : decode cX3_init 88 = .ok (.return_, 1) := by decide +kernel
theorem dX3_add_0 : decode cX3_add 0 = .ok (.aload_n 0, 1) := by decide +kernel
theorem dX3_add_1 : decode cX3_add 1 = .ok (.getfield 37, 3) := by decide +kernel
theorem dX3_add_4 : decode cX3_add 4 = .ok (.bipush 6, 2) := by decide +kernel
theorem dX3_add_6 : decode cX3_add 6 = .ok (.if_icmp .ge 38, 3) := by decide +kernel
theorem dX3_add_9 : decode cX3_add 9 = .ok (.aload_n 0, 1) := by decide +kernel
theorem dX3_add_10 : decode cX3_add 10 = .ok (.getfield 18, 3) := by decide +kernel
theorem dX3_add_13 : decode cX3_add 13 = .ok (.aload_n 0, 1) := by decide +kernel
theorem dX3_add_14 : decode cX3_add 14 = .ok (.getfield 37, 3) := by decide +kernel
theorem dX3_add_17 : decode cX3_add 17 = .ok (.iload_n 1, 1) := by decide +kernel
theorem dX3_add_18 : decode cX3_add 18 = .ok (.iastore, 1) := by decide +kernel
theorem dX3_add_19 : decode cX3_add 19 = .ok (.aload_n 0, 1) := by decide +kernel
theorem dX3_add_20 : decode cX3_add 20 = .ok (.getfield 21, 3) := by decide +kernel
theorem dX3_add_23 : decode cX3_add 23 = .ok (.aload_n 0, 1) := by decide +kernel
theorem dX3_add_24 : decode cX3_add 24 = .ok (.getfield 37, 3) := by decide +kernel
theorem dX3_add_27 : decode cX3_add 27 = .ok (.iload_n 2, 1) := by decide +kernel
theorem dX3_add_28 : decode cX3_add 28 = .ok (.iastore, 1) := by decide +kernel
theorem dX3_add_29 : decode cX3_add 29 = .ok (.aload_n 0, 1) := by decide +kernel
theorem dX3_add_30 : decode cX3_add 30 = .ok (.dup, 1) := by decide +kernel
theorem dX3_add_31 : decode cX3_add 31 = .ok (.getfield 37, 3) := by decide +kernel
theorem dX3_add_34 : decode cX3_add 34 = .ok (.iconst 1, 1) := by decide +kernel
theorem dX3_add_35 : decode cX3_add 35 = .ok (.iadd, 1) := by decide +kernel
theorem dX3_add_36 : decode cX3_add 36 = .ok (.putfield 37, 3) := by decide +kernel
theorem dX3_add_39 : decode cX3_add 39 = .ok (.aload_n 0, 1) := by decide +kernel
theorem dX3_add_40 : decode cX3_add 40 = .ok (.iconst 0, 1) := by decide +kernel
theorem dX3_add_41 : decode cX3_add 41 = .ok (.putfield 41, 3) := by decide +kernel
theorem dX3_add_44 : decode cX3_add 44 = .ok (.return_, 1) := by decide +kernel
theorem dX3_look_0 : decode cX3_look 0 = .ok (.aload_n 0, 1) := by decide +kernel
theorem dX3_look_1 : decode cX3_look 1 = .ok (.getfield 41, 3) := by decide +kernel
theorem dX3_look_4 : decode cX3_look 4 = .ok (.ifCond .eq 4, 3) := by decide +kernel
theorem dX3_look_7 : decode cX3_look 7 = .ok (.return_, 1) := by decide +kernel
theorem dX3_look_8 : decode cX3_look 8 = .ok (.aload_n 0, 1) := by decide +kernel
theorem dX3_look_9 : decode cX3_look 9 = .ok (.iconst 1, 1) := by decide +kernel
theorem dX3_look_10 : decode cX3_look 10 = .ok (.putfield 41, 3) := by decide +kernel
theorem dX3_look_13 : decode cX3_look 13 = .ok (.aload_n 0, 1) := by decide +kernel
theorem dX3_look_14 : decode cX3_look 14 = .ok (.iconst 0, 1) := by decide +kernel
theorem dX3_look_15 : decode cX3_look 15 = .ok (.putfield 45, 3) := by decide +kernel
theorem dX3_look_18 : decode cX3_look 18 = .ok (.iconst 0, 1) := by decide +kernel
theorem dX3_look_19 : decode cX3_look 19 = .ok (.istore_n 2, 1) := by decide +kernel
theorem dX3_look_20 : decode cX3_look 20 = .ok (.iload_n 2, 1) := by decide +kernel
theorem dX3_look_21 : decode cX3_look 21 = .ok (.bipush 6, 2) := by decide +kernel
theorem dX3_look_23 : decode cX3_look 23 = .ok (.if_icmp .ge 17, 3) := by decide +kernel
theorem dX3_look_26 : decode cX3_look 26 = .ok (.aload_n 0, 1) := by decide +kernel
theorem dX3_look_27 : decode cX3_look 27 = .ok (.getfield 15, 3) := by decide +kernel
theorem dX3_look_30 : decode cX3_look 30 = .ok (.iload_n 2, 1) := by decide +kernel
theorem dX3_look_31 : decode cX3_look 31 = .ok (.bipush 15, 2) := by decide +kernel
theorem dX3_look_33 : decode cX3_look 33 = .ok (.iastore, 1) := by decide +kernel
theorem dX3_look_34 : decode cX3_look 34 = .ok (.iinc 2 1, 3) := by decide +kernel
theorem dX3_look_37 : decode cX3_look 37 = .ok (.goto (-17), 3) := by decide +kernel
theorem dX3_look_40 : decode cX3_look 40 = .ok (.aload_n 0, 1) := by decide +kernel
theorem dX3_look_41 : decode cX3_look 41 = .ok (.invokevirtual 48, 3) := by decide +kernel
theorem dX3_look_44 : decode cX3_look 44 = .ok (.ifCond .eq 18, 3) := by decide +kernel
theorem dX3_look_47 : decode cX3_look 47 = .ok (.aload_n 0, 1) := by decide +kernel
theorem dX3_look_48 : decode cX3_look 48 = .ok (.getfield 32, 3) := by decide +kernel
theorem dX3_look_51 : decode cX3_look 51 = .ok (.iconst 0, 1) := by decide +kernel
theorem dX3_look_52 : decode cX3_look 52 = .ok (.aaload, 1) := by decide +kernel
theorem dX3_look_53 : decode cX3_look 53 = .ok (.invokevirtual 52, 3) := by decide +kernel
theorem dX3_look_56 : decode cX3_look 56 = .ok (.aload_n 0, 1) := by decide +kernel
theorem dX3_look_57 : decode cX3_look 57 = .ok (.aload_n 1, 1) := by decide +kernel
theorem dX3_look_58 : decode cX3_look 58 = .ok (.iconst 0, 1) := by decide +kernel
theorem dX3_look_59 : decode cX3_look 59 = .ok (.invokevirtual 55, 3) := by decide +kernel
theorem dX3_look_62 : decode cX3_look 62 = .ok (.return_, 1) := by decide +kernel
theorem dX3_gatherDue_0 : decode cX3_gatherDue 0 = .ok (.aload_n 0, 1) := by decide +kernel
theorem dX3_gatherDue_1 : decode cX3_gatherDue 1 = .ok (.iconst (-1), 1) := by decide +kernel
theorem dX3_gatherDue_2 : decode cX3_gatherDue 2 = .ok (.putfield 59, 3) := by decide +kernel
theorem dX3_gatherDue_5 : decode cX3_gatherDue 5 = .ok (.iconst 0, 1) := by decide +kernel
theorem dX3_gatherDue_6 : decode cX3_gatherDue 6 = .ok (.istore_n 1, 1) := by decide +kernel
theorem dX3_gatherDue_7 : decode cX3_gatherDue 7 = .ok (.iload_n 1, 1) := by decide +kernel
theorem dX3_gatherDue_8 : decode cX3_gatherDue 8 = .ok (.bipush 6, 2) := by decide +kernel
theorem dX3_gatherDue_10 : decode cX3_gatherDue 10 = .ok (.if_icmp .ge 17, 3) := by decide +kernel
theorem dX3_gatherDue_13 : decode cX3_gatherDue 13 = .ok (.aload_n 0, 1) := by decide +kernel
theorem dX3_gatherDue_14 : decode cX3_gatherDue 14 = .ok (.getfield 24, 3) := by decide +kernel
theorem dX3_gatherDue_17 : decode cX3_gatherDue 17 = .ok (.iload_n 1, 1) := by decide +kernel
theorem dX3_gatherDue_18 : decode cX3_gatherDue 18 = .ok (.bipush (-9), 2) := by decide +kernel
theorem dX3_gatherDue_20 : decode cX3_gatherDue 20 = .ok (.iastore, 1) := by decide +kernel
theorem dX3_gatherDue_21 : decode cX3_gatherDue 21 = .ok (.iinc 1 1, 3) := by decide +kernel
theorem dX3_gatherDue_24 : decode cX3_gatherDue 24 = .ok (.goto (-17), 3) := by decide +kernel
theorem dX3_gatherDue_27 : decode cX3_gatherDue 27 = .ok (.iconst 0, 1) := by decide +kernel
theorem dX3_gatherDue_28 : decode cX3_gatherDue 28 = .ok (.istore_n 1, 1) := by decide +kernel
theorem dX3_gatherDue_29 : decode cX3_gatherDue 29 = .ok (.iload_n 1, 1) := by decide +kernel
theorem dX3_gatherDue_30 : decode cX3_gatherDue 30 = .ok (.aload_n 0, 1) := by decide +kernel
theorem dX3_gatherDue_31 : decode cX3_gatherDue 31 = .ok (.getfield 37, 3) := by decide +kernel
theorem dX3_gatherDue_34 : decode cX3_gatherDue 34 = .ok (.if_icmp .ge 68, 3) := by decide +kernel
theorem dX3_gatherDue_37 : decode cX3_gatherDue 37 = .ok (.aload_n 0, 1) := by decide +kernel
theorem dX3_gatherDue_38 : decode cX3_gatherDue 38 = .ok (.getfield 18, 3) := by decide +kernel
theorem dX3_gatherDue_41 : decode cX3_gatherDue 41 = .ok (.iload_n 1, 1) := by decide +kernel
theorem dX3_gatherDue_42 : decode cX3_gatherDue 42 = .ok (.iaload, 1) := by decide +kernel
theorem dX3_gatherDue_43 : decode cX3_gatherDue 43 = .ok (.istore_n 2, 1) := by decide +kernel
theorem dX3_gatherDue_44 : decode cX3_gatherDue 44 = .ok (.aload_n 0, 1) := by decide +kernel
theorem dX3_gatherDue_45 : decode cX3_gatherDue 45 = .ok (.getfield 24, 3) := by decide +kernel
theorem dX3_gatherDue_48 : decode cX3_gatherDue 48 = .ok (.iload_n 2, 1) := by decide +kernel
theorem dX3_gatherDue_49 : decode cX3_gatherDue 49 = .ok (.iaload, 1) := by decide +kernel
theorem dX3_gatherDue_50 : decode cX3_gatherDue 50 = .ok (.bipush (-9), 2) := by decide +kernel
theorem dX3_gatherDue_52 : decode cX3_gatherDue 52 = .ok (.if_icmp .eq 20, 3) := by decide +kernel
theorem dX3_gatherDue_55 : decode cX3_gatherDue 55 = .ok (.aload_n 0, 1) := by decide +kernel
theorem dX3_gatherDue_56 : decode cX3_gatherDue 56 = .ok (.getfield 24, 3) := by decide +kernel
theorem dX3_gatherDue_59 : decode cX3_gatherDue 59 = .ok (.iload_n 2, 1) := by decide +kernel
theorem dX3_gatherDue_60 : decode cX3_gatherDue 60 = .ok (.iaload, 1) := by decide +kernel
theorem dX3_gatherDue_61 : decode cX3_gatherDue 61 = .ok (.aload_n 0, 1) := by decide +kernel
theorem dX3_gatherDue_62 : decode cX3_gatherDue 62 = .ok (.getfield 21, 3) := by decide +kernel
theorem dX3_gatherDue_65 : decode cX3_gatherDue 65 = .ok (.iload_n 1, 1) := by decide +kernel
theorem dX3_gatherDue_66 : decode cX3_gatherDue 66 = .ok (.iaload, 1) := by decide +kernel
theorem dX3_gatherDue_67 : decode cX3_gatherDue 67 = .ok (.if_icmp .eq 5, 3) := by decide +kernel
theorem dX3_gatherDue_70 : decode cX3_gatherDue 70 = .ok (.iconst 0, 1) := by decide +kernel
theorem dX3_gatherDue_71 : decode cX3_gatherDue 71 = .ok (.ireturn, 1) := by decide +kernel
theorem dX3_gatherDue_72 : decode cX3_gatherDue 72 = .ok (.aload_n 0, 1) := by decide +kernel
theorem dX3_gatherDue_73 : decode cX3_gatherDue 73 = .ok (.getfield 24, 3) := by decide +kernel
theorem dX3_gatherDue_76 : decode cX3_gatherDue 76 = .ok (.iload_n 2, 1) := by decide +kernel
theorem dX3_gatherDue_77 : decode cX3_gatherDue 77 = .ok (.aload_n 0, 1) := by decide +kernel
theorem dX3_gatherDue_78 : decode cX3_gatherDue 78 = .ok (.getfield 21, 3) := by decide +kernel
theorem dX3_gatherDue_81 : decode cX3_gatherDue 81 = .ok (.iload_n 1, 1) := by decide +kernel
theorem dX3_gatherDue_82 : decode cX3_gatherDue 82 = .ok (.iaload, 1) := by decide +kernel
theorem dX3_gatherDue_83 : decode cX3_gatherDue 83 = .ok (.iastore, 1) := by decide +kernel
theorem dX3_gatherDue_84 : decode cX3_gatherDue 84 = .ok (.aload_n 0, 1) := by decide +kernel
theorem dX3_gatherDue_85 : decode cX3_gatherDue 85 = .ok (.aload_n 0, 1) := by decide +kernel
theorem dX3_gatherDue_86 : decode cX3_gatherDue 86 = .ok (.getfield 59, 3) := by decide +kernel
theorem dX3_gatherDue_89 : decode cX3_gatherDue 89 = .ok (.iload_n 2, 1) := by decide +kernel
theorem dX3_gatherDue_90 : decode cX3_gatherDue 90 = .ok (.invokestatic 62, 3) := by decide +kernel
theorem dX3_gatherDue_93 : decode cX3_gatherDue 93 = .ok (.putfield 59, 3) := by decide +kernel
theorem dX3_gatherDue_96 : decode cX3_gatherDue 96 = .ok (.iinc 1 1, 3) := by decide +kernel
theorem dX3_gatherDue_99 : decode cX3_gatherDue 99 = .ok (.goto (-70), 3) := by decide +kernel
theorem dX3_gatherDue_102 : decode cX3_gatherDue 102 = .ok (.iconst 1, 1) := by decide +kernel
theorem dX3_gatherDue_103 : decode cX3_gatherDue 103 = .ok (.ireturn, 1) := by decide +kernel
theorem dX3_search_0 : decode cX3_search 0 = .ok (.iload_n 2, 1) := by decide +kernel
theorem dX3_search_1 : decode cX3_search 1 = .ok (.aload_n 0, 1) := by decide +kernel
theorem dX3_search_2 : decode cX3_search 2 = .ok (.getfield 59, 3) := by decide +kernel
theorem dX3_search_5 : decode cX3_search 5 = .ok (.if_icmp .gt 17, 3) := by decide +kernel
theorem dX3_search_8 : decode cX3_search 8 = .ok (.iload_n 2, 1) := by decide +kernel
theorem dX3_search_9 : decode cX3_search 9 = .ok (.aload_n 1, 1) := by decide +kernel
theorem dX3_search_10 : decode cX3_search 10 = .ok (.getfield 68, 3) := by decide +kernel
theorem dX3_search_13 : decode cX3_search 13 = .ok (.if_icmp .ge 9, 3) := by decide +kernel
theorem dX3_search_16 : decode cX3_search 16 = .ok (.iload_n 2, 1) := by decide +kernel
theorem dX3_search_17 : decode cX3_search 17 = .ok (.bipush 6, 2) := by decide +kernel
theorem dX3_search_19 : decode cX3_search 19 = .ok (.if_icmp .lt 10, 3) := by decide +kernel
theorem dX3_search_22 : decode cX3_search 22 = .ok (.aload_n 0, 1) := by decide +kernel
theorem dX3_search_23 : decode cX3_search 23 = .ok (.aload_n 1, 1) := by decide +kernel
theorem dX3_search_24 : decode cX3_search 24 = .ok (.iload_n 2, 1) := by decide +kernel
theorem dX3_search_25 : decode cX3_search 25 = .ok (.invokevirtual 73, 3) := by decide +kernel
theorem dX3_search_28 : decode cX3_search 28 = .ok (.return_, 1) := by decide +kernel
theorem dX3_search_29 : decode cX3_search 29 = .ok (.aload_n 0, 1) := by decide +kernel
theorem dX3_search_30 : decode cX3_search 30 = .ok (.getfield 32, 3) := by decide +kernel
theorem dX3_search_33 : decode cX3_search 33 = .ok (.iload_n 2, 1) := by decide +kernel
theorem dX3_search_34 : decode cX3_search 34 = .ok (.aaload, 1) := by decide +kernel
theorem dX3_search_35 : decode cX3_search 35 = .ok (.astore_n 3, 1) := by decide +kernel
theorem dX3_search_36 : decode cX3_search 36 = .ok (.aload_n 0, 1) := by decide +kernel
theorem dX3_search_37 : decode cX3_search 37 = .ok (.getfield 32, 3) := by decide +kernel
theorem dX3_search_40 : decode cX3_search 40 = .ok (.iload_n 2, 1) := by decide +kernel
theorem dX3_search_41 : decode cX3_search 41 = .ok (.iconst 1, 1) := by decide +kernel
theorem dX3_search_42 : decode cX3_search 42 = .ok (.iadd, 1) := by decide +kernel
theorem dX3_search_43 : decode cX3_search 43 = .ok (.aaload, 1) := by decide +kernel
theorem dX3_search_44 : decode cX3_search 44 = .ok (.astore 4, 2) := by decide +kernel
theorem dX3_search_46 : decode cX3_search 46 = .ok (.iconst 0, 1) := by decide +kernel
theorem dX3_search_47 : decode cX3_search 47 = .ok (.istore 5, 2) := by decide +kernel
theorem dX3_search_49 : decode cX3_search 49 = .ok (.iload 5, 2) := by decide +kernel
theorem dX3_search_51 : decode cX3_search 51 = .ok (.aload_n 1, 1) := by decide +kernel
theorem dX3_search_52 : decode cX3_search 52 = .ok (.getfield 76, 3) := by decide +kernel
theorem dX3_search_55 : decode cX3_search 55 = .ok (.if_icmp .ge 75, 3) := by decide +kernel
theorem dX3_search_58 : decode cX3_search 58 = .ok (.aload_n 1, 1) := by decide +kernel
theorem dX3_search_59 : decode cX3_search 59 = .ok (.getfield 79, 3) := by decide +kernel
theorem dX3_search_62 : decode cX3_search 62 = .ok (.iload 5, 2) := by decide +kernel
theorem dX3_search_64 : decode cX3_search 64 = .ok (.iaload, 1) := by decide +kernel
theorem dX3_search_65 : decode cX3_search 65 = .ok (.istore 6, 2) := by decide +kernel
theorem dX3_search_67 : decode cX3_search 67 = .ok (.aload_n 3, 1) := by decide +kernel
theorem dX3_search_68 : decode cX3_search 68 = .ok (.getfield 82, 3) := by decide +kernel
theorem dX3_search_71 : decode cX3_search 71 = .ok (.aload_n 3, 1) := by decide +kernel
theorem dX3_search_72 : decode cX3_search 72 = .ok (.aload_n 1, 1) := by decide +kernel
theorem dX3_search_73 : decode cX3_search 73 = .ok (.iload 6, 2) := by decide +kernel
theorem dX3_search_75 : decode cX3_search 75 = .ok (.invokevirtual 84, 3) := by decide +kernel
theorem dX3_search_78 : decode cX3_search 78 = .ok (.iadd, 1) := by decide +kernel
theorem dX3_search_79 : decode cX3_search 79 = .ok (.istore 7, 2) := by decide +kernel
theorem dX3_search_81 : decode cX3_search 81 = .ok (.aload_n 0, 1) := by decide +kernel
theorem dX3_search_82 : decode cX3_search 82 = .ok (.aload_n 1, 1) := by decide +kernel
theorem dX3_search_83 : decode cX3_search 83 = .ok (.iload_n 2, 1) := by decide +kernel
theorem dX3_search_84 : decode cX3_search 84 = .ok (.iload 7, 2) := by decide +kernel
theorem dX3_search_86 : decode cX3_search 86 = .ok (.invokevirtual 88, 3) := by decide +kernel
theorem dX3_search_89 : decode cX3_search 89 = .ok (.ifCond .eq 35, 3) := by decide +kernel
theorem dX3_search_92 : decode cX3_search 92 = .ok (.aload 4, 2) := by decide +kernel
theorem dX3_search_94 : decode cX3_search 94 = .ok (.aload_n 3, 1) := by decide +kernel
theorem dX3_search_95 : decode cX3_search 95 = .ok (.invokevirtual 92, 3) := by decide +kernel
theorem dX3_search_98 : decode cX3_search 98 = .ok (.aload 4, 2) := by decide +kernel
theorem dX3_search_100 : decode cX3_search 100 = .ok (.aload_n 1, 1) := by decide +kernel
theorem dX3_search_101 : decode cX3_search 101 = .ok (.iload 6, 2) := by decide +kernel
theorem dX3_search_103 : decode cX3_search 103 = .ok (.iload 7, 2) := by decide +kernel
theorem dX3_search_105 : decode cX3_search 105 = .ok (.invokevirtual 96, 3) := by decide +kernel
theorem dX3_search_108 : decode cX3_search 108 = .ok (.aload_n 0, 1) := by decide +kernel
theorem dX3_search_109 : decode cX3_search 109 = .ok (.getfield 27, 3) := by decide +kernel
theorem dX3_search_112 : decode cX3_search 112 = .ok (.iload_n 2, 1) := by decide +kernel
theorem dX3_search_113 : decode cX3_search 113 = .ok (.iload 6, 2) := by decide +kernel
theorem dX3_search_115 : decode cX3_search 115 = .ok (.iastore, 1) := by decide +kernel
theorem dX3_search_116 : decode cX3_search 116 = .ok (.aload_n 0, 1) := by decide +kernel
theorem dX3_search_117 : decode cX3_search 117 = .ok (.aload_n 1, 1) := by decide +kernel
theorem dX3_search_118 : decode cX3_search 118 = .ok (.iload_n 2, 1) := by decide +kernel
theorem dX3_search_119 : decode cX3_search 119 = .ok (.iconst 1, 1) := by decide +kernel
theorem dX3_search_120 : decode cX3_search 120 = .ok (.iadd, 1) := by decide +kernel
theorem dX3_search_121 : decode cX3_search 121 = .ok (.invokevirtual 55, 3) := by decide +kernel
theorem dX3_search_124 : decode cX3_search 124 = .ok (.iinc 5 1, 3) := by decide +kernel
theorem dX3_search_127 : decode cX3_search 127 = .ok (.goto (-78), 3) := by decide +kernel
theorem dX3_search_130 : decode cX3_search 130 = .ok (.return_, 1) := by decide +kernel
theorem dX3_mayFit_0 : decode cX3_mayFit 0 = .ok (.iload_n 2, 1) := by decide +kernel
theorem dX3_mayFit_1 : decode cX3_mayFit 1 = .ok (.istore 4, 2) := by decide +kernel
theorem dX3_mayFit_3 : decode cX3_mayFit 3 = .ok (.iload 4, 2) := by decide +kernel
theorem dX3_mayFit_5 : decode cX3_mayFit 5 = .ok (.aload_n 1, 1) := by decide +kernel
theorem dX3_mayFit_6 : decode cX3_mayFit 6 = .ok (.getfield 68, 3) := by decide +kernel
theorem dX3_mayFit_9 : decode cX3_mayFit 9 = .ok (.if_icmp .ge 95, 3) := by decide +kernel
theorem dX3_mayFit_12 : decode cX3_mayFit 12 = .ok (.aload_n 0, 1) := by decide +kernel
theorem dX3_mayFit_13 : decode cX3_mayFit 13 = .ok (.getfield 24, 3) := by decide +kernel
theorem dX3_mayFit_16 : decode cX3_mayFit 16 = .ok (.iload 4, 2) := by decide +kernel
theorem dX3_mayFit_18 : decode cX3_mayFit 18 = .ok (.iaload, 1) := by decide +kernel
theorem dX3_mayFit_19 : decode cX3_mayFit 19 = .ok (.bipush (-9), 2) := by decide +kernel
theorem dX3_mayFit_21 : decode cX3_mayFit 21 = .ok (.if_icmp .eq 77, 3) := by decide +kernel
theorem dX3_mayFit_24 : decode cX3_mayFit 24 = .ok (.iload_n 3, 1) := by decide +kernel
theorem dX3_mayFit_25 : decode cX3_mayFit 25 = .ok (.aload_n 1, 1) := by decide +kernel
theorem dX3_mayFit_26 : decode cX3_mayFit 26 = .ok (.getfield 100, 3) := by decide +kernel
theorem dX3_mayFit_29 : decode cX3_mayFit 29 = .ok (.iload 4, 2) := by decide +kernel
theorem dX3_mayFit_31 : decode cX3_mayFit 31 = .ok (.iconst 1, 1) := by decide +kernel
theorem dX3_mayFit_32 : decode cX3_mayFit 32 = .ok (.iadd, 1) := by decide +kernel
theorem dX3_mayFit_33 : decode cX3_mayFit 33 = .ok (.iaload, 1) := by decide +kernel
theorem dX3_mayFit_34 : decode cX3_mayFit 34 = .ok (.iadd, 1) := by decide +kernel
theorem dX3_mayFit_35 : decode cX3_mayFit 35 = .ok (.aload_n 1, 1) := by decide +kernel
theorem dX3_mayFit_36 : decode cX3_mayFit 36 = .ok (.getfield 100, 3) := by decide +kernel
theorem dX3_mayFit_39 : decode cX3_mayFit 39 = .ok (.iload_n 2, 1) := by decide +kernel
theorem dX3_mayFit_40 : decode cX3_mayFit 40 = .ok (.iconst 1, 1) := by decide +kernel
theorem dX3_mayFit_41 : decode cX3_mayFit 41 = .ok (.iadd, 1) := by decide +kernel
theorem dX3_mayFit_42 : decode cX3_mayFit 42 = .ok (.iaload, 1) := by decide +kernel
theorem dX3_mayFit_43 : decode cX3_mayFit 43 = .ok (.isub, 1) := by decide +kernel
theorem dX3_mayFit_44 : decode cX3_mayFit 44 = .ok (.istore 5, 2) := by decide +kernel
theorem dX3_mayFit_46 : decode cX3_mayFit 46 = .ok (.iload_n 3, 1) := by decide +kernel
theorem dX3_mayFit_47 : decode cX3_mayFit 47 = .ok (.aload_n 1, 1) := by decide +kernel
theorem dX3_mayFit_48 : decode cX3_mayFit 48 = .ok (.getfield 103, 3) := by decide +kernel
theorem dX3_mayFit_51 : decode cX3_mayFit 51 = .ok (.iload 4, 2) := by decide +kernel
theorem dX3_mayFit_53 : decode cX3_mayFit 53 = .ok (.iconst 1, 1) := by decide +kernel
theorem dX3_mayFit_54 : decode cX3_mayFit 54 = .ok (.iadd, 1) := by decide +kernel
theorem dX3_mayFit_55 : decode cX3_mayFit 55 = .ok (.iaload, 1) := by decide +kernel
theorem dX3_mayFit_56 : decode cX3_mayFit 56 = .ok (.iadd, 1) := by decide +kernel
theorem dX3_mayFit_57 : decode cX3_mayFit 57 = .ok (.aload_n 1, 1) := by decide +kernel
theorem dX3_mayFit_58 : decode cX3_mayFit 58 = .ok (.getfield 103, 3) := by decide +kernel
theorem dX3_mayFit_61 : decode cX3_mayFit 61 = .ok (.iload_n 2, 1) := by decide +kernel
theorem dX3_mayFit_62 : decode cX3_mayFit 62 = .ok (.iconst 1, 1) := by decide +kernel
theorem dX3_mayFit_63 : decode cX3_mayFit 63 = .ok (.iadd, 1) := by decide +kernel
theorem dX3_mayFit_64 : decode cX3_mayFit 64 = .ok (.iaload, 1) := by decide +kernel
theorem dX3_mayFit_65 : decode cX3_mayFit 65 = .ok (.isub, 1) := by decide +kernel
theorem dX3_mayFit_66 : decode cX3_mayFit 66 = .ok (.istore 6, 2) := by decide +kernel
theorem dX3_mayFit_68 : decode cX3_mayFit 68 = .ok (.iload 5, 2) := by decide +kernel
theorem dX3_mayFit_70 : decode cX3_mayFit 70 = .ok (.aload_n 0, 1) := by decide +kernel
theorem dX3_mayFit_71 : decode cX3_mayFit 71 = .ok (.getfield 24, 3) := by decide +kernel
theorem dX3_mayFit_74 : decode cX3_mayFit 74 = .ok (.iload 4, 2) := by decide +kernel
theorem dX3_mayFit_76 : decode cX3_mayFit 76 = .ok (.iaload, 1) := by decide +kernel
theorem dX3_mayFit_77 : decode cX3_mayFit 77 = .ok (.if_icmp .gt 19, 3) := by decide +kernel
theorem dX3_mayFit_80 : decode cX3_mayFit 80 = .ok (.aload_n 0, 1) := by decide +kernel
theorem dX3_mayFit_81 : decode cX3_mayFit 81 = .ok (.getfield 24, 3) := by decide +kernel
theorem dX3_mayFit_84 : decode cX3_mayFit 84 = .ok (.iload 4, 2) := by decide +kernel
theorem dX3_mayFit_86 : decode cX3_mayFit 86 = .ok (.iaload, 1) := by decide +kernel
theorem dX3_mayFit_87 : decode cX3_mayFit 87 = .ok (.iload 6, 2) := by decide +kernel
theorem dX3_mayFit_89 : decode cX3_mayFit 89 = .ok (.if_icmp .gt 7, 3) := by decide +kernel
theorem dX3_mayFit_92 : decode cX3_mayFit 92 = .ok (.iconst 1, 1) := by decide +kernel
theorem dX3_mayFit_93 : decode cX3_mayFit 93 = .ok (.goto 4, 3) := by decide +kernel
theorem dX3_mayFit_96 : decode cX3_mayFit 96 = .ok (.iconst 0, 1) := by decide +kernel
theorem dX3_mayFit_97 : decode cX3_mayFit 97 = .ok (.ireturn, 1) := by decide +kernel
theorem dX3_mayFit_98 : decode cX3_mayFit 98 = .ok (.iinc 4 1, 3) := by decide +kernel
theorem dX3_mayFit_101 : decode cX3_mayFit 101 = .ok (.goto (-98), 3) := by decide +kernel
theorem dX3_mayFit_104 : decode cX3_mayFit 104 = .ok (.iconst 1, 1) := by decide +kernel
theorem dX3_mayFit_105 : decode cX3_mayFit 105 = .ok (.ireturn, 1) := by decide +kernel
theorem dX3_addRows_0 : decode cX3_addRows 0 = .ok (.aload_n 1, 1) := by decide +kernel
theorem dX3_addRows_1 : decode cX3_addRows 1 = .ok (.getfield 76, 3) := by decide +kernel
theorem dX3_addRows_4 : decode cX3_addRows 4 = .ok (.aload_n 1, 1) := by decide +kernel
theorem dX3_addRows_5 : decode cX3_addRows 5 = .ok (.getfield 68, 3) := by decide +kernel
theorem dX3_addRows_8 : decode cX3_addRows 8 = .ok (.iload_n 2, 1) := by decide +kernel
theorem dX3_addRows_9 : decode cX3_addRows 9 = .ok (.isub, 1) := by decide +kernel
theorem dX3_addRows_10 : decode cX3_addRows 10 = .ok (.invokestatic 106, 3) := by decide +kernel
theorem dX3_addRows_13 : decode cX3_addRows 13 = .ok (.istore_n 3, 1) := by decide +kernel
theorem dX3_addRows_14 : decode cX3_addRows 14 = .ok (.iload_n 3, 1) := by decide +kernel
theorem dX3_addRows_15 : decode cX3_addRows 15 = .ok (.ifCond .ne 4, 3) := by decide +kernel
theorem dX3_addRows_18 : decode cX3_addRows 18 = .ok (.return_, 1) := by decide +kernel
theorem dX3_addRows_19 : decode cX3_addRows 19 = .ok (.iload_n 2, 1) := by decide +kernel
theorem dX3_addRows_20 : decode cX3_addRows 20 = .ok (.istore 4, 2) := by decide +kernel
theorem dX3_addRows_22 : decode cX3_addRows 22 = .ok (.iload 4, 2) := by decide +kernel
theorem dX3_addRows_24 : decode cX3_addRows 24 = .ok (.aload_n 1, 1) := by decide +kernel
theorem dX3_addRows_25 : decode cX3_addRows 25 = .ok (.getfield 68, 3) := by decide +kernel
theorem dX3_addRows_28 : decode cX3_addRows 28 = .ok (.if_icmp .ge 22, 3) := by decide +kernel
theorem dX3_addRows_31 : decode cX3_addRows 31 = .ok (.aload_n 0, 1) := by decide +kernel
theorem dX3_addRows_32 : decode cX3_addRows 32 = .ok (.getfield 27, 3) := by decide +kernel
theorem dX3_addRows_35 : decode cX3_addRows 35 = .ok (.iload 4, 2) := by decide +kernel
theorem dX3_addRows_37 : decode cX3_addRows 37 = .ok (.aload_n 1, 1) := by decide +kernel
theorem dX3_addRows_38 : decode cX3_addRows 38 = .ok (.getfield 79, 3) := by decide +kernel
theorem dX3_addRows_41 : decode cX3_addRows 41 = .ok (.iconst 0, 1) := by decide +kernel
theorem dX3_addRows_42 : decode cX3_addRows 42 = .ok (.iaload, 1) := by decide +kernel
theorem dX3_addRows_43 : decode cX3_addRows 43 = .ok (.iastore, 1) := by decide +kernel
theorem dX3_addRows_44 : decode cX3_addRows 44 = .ok (.iinc 4 1, 3) := by decide +kernel
theorem dX3_addRows_47 : decode cX3_addRows 47 = .ok (.goto (-25), 3) := by decide +kernel
theorem dX3_addRows_50 : decode cX3_addRows 50 = .ok (.iconst 0, 1) := by decide +kernel
theorem dX3_addRows_51 : decode cX3_addRows 51 = .ok (.istore 4, 2) := by decide +kernel
theorem dX3_addRows_53 : decode cX3_addRows 53 = .ok (.iload 4, 2) := by decide +kernel
theorem dX3_addRows_55 : decode cX3_addRows 55 = .ok (.aload_n 1, 1) := by decide +kernel
theorem dX3_addRows_56 : decode cX3_addRows 56 = .ok (.getfield 68, 3) := by decide +kernel
theorem dX3_addRows_59 : decode cX3_addRows 59 = .ok (.if_icmp .ge 68, 3) := by decide +kernel
theorem dX3_addRows_62 : decode cX3_addRows 62 = .ok (.aload_n 0, 1) := by decide +kernel
theorem dX3_addRows_63 : decode cX3_addRows 63 = .ok (.getfield 45, 3) := by decide +kernel
theorem dX3_addRows_66 : decode cX3_addRows 66 = .ok (.ifCond .ne 17, 3) := by decide +kernel
theorem dX3_addRows_69 : decode cX3_addRows 69 = .ok (.aload_n 0, 1) := by decide +kernel
theorem dX3_addRows_70 : decode cX3_addRows 70 = .ok (.getfield 9, 3) := by decide +kernel
theorem dX3_addRows_73 : decode cX3_addRows 73 = .ok (.iload 4, 2) := by decide +kernel
theorem dX3_addRows_75 : decode cX3_addRows 75 = .ok (.aload_n 0, 1) := by decide +kernel
theorem dX3_addRows_76 : decode cX3_addRows 76 = .ok (.getfield 27, 3) := by decide +kernel
theorem dX3_addRows_79 : decode cX3_addRows 79 = .ok (.iload 4, 2) := by decide +kernel
theorem dX3_addRows_81 : decode cX3_addRows 81 = .ok (.iaload, 1) := by decide +kernel
theorem dX3_addRows_82 : decode cX3_addRows 82 = .ok (.iastore, 1) := by decide +kernel
theorem dX3_addRows_83 : decode cX3_addRows 83 = .ok (.aload_n 0, 1) := by decide +kernel
theorem dX3_addRows_84 : decode cX3_addRows 84 = .ok (.getfield 15, 3) := by decide +kernel
theorem dX3_addRows_87 : decode cX3_addRows 87 = .ok (.iload 4, 2) := by decide +kernel
theorem dX3_addRows_89 : decode cX3_addRows 89 = .ok (.dup2, 1) := by decide +kernel
theorem dX3_addRows_90 : decode cX3_addRows 90 = .ok (.iaload, 1) := by decide +kernel
theorem dX3_addRows_91 : decode cX3_addRows 91 = .ok (.iload 4, 2) := by decide +kernel
theorem dX3_addRows_93 : decode cX3_addRows 93 = .ok (.iload_n 2, 1) := by decide +kernel
theorem dX3_addRows_94 : decode cX3_addRows 94 = .ok (.if_icmp .lt 15, 3) := by decide +kernel
theorem dX3_addRows_97 : decode cX3_addRows 97 = .ok (.aload_n 1, 1) := by decide +kernel
theorem dX3_addRows_98 : decode cX3_addRows 98 = .ok (.getfield 76, 3) := by decide +kernel
theorem dX3_addRows_101 : decode cX3_addRows 101 = .ok (.iconst 1, 1) := by decide +kernel
theorem dX3_addRows_102 : decode cX3_addRows 102 = .ok (.if_icmp .le 7, 3) := by decide +kernel
theorem dX3_addRows_105 : decode cX3_addRows 105 = .ok (.iconst 0, 1) := by decide +kernel
theorem dX3_addRows_106 : decode cX3_addRows 106 = .ok (.goto 13, 3) := by decide +kernel
theorem dX3_addRows_109 : decode cX3_addRows 109 = .ok (.aload_n 0, 1) := by decide +kernel
theorem dX3_addRows_110 : decode cX3_addRows 110 = .ok (.getfield 27, 3) := by decide +kernel
theorem dX3_addRows_113 : decode cX3_addRows 113 = .ok (.iload 4, 2) := by decide +kernel
theorem dX3_addRows_115 : decode cX3_addRows 115 = .ok (.iaload, 1) := by decide +kernel
theorem dX3_addRows_116 : decode cX3_addRows 116 = .ok (.invokestatic 109, 3) := by decide +kernel
theorem dX3_addRows_119 : decode cX3_addRows 119 = .ok (.iand, 1) := by decide +kernel
theorem dX3_addRows_120 : decode cX3_addRows 120 = .ok (.iastore, 1) := by decide +kernel
theorem dX3_addRows_121 : decode cX3_addRows 121 = .ok (.iinc 4 1, 3) := by decide +kernel
theorem dX3_addRows_124 : decode cX3_addRows 124 = .ok (.goto (-71), 3) := by decide +kernel
theorem dX3_addRows_127 : decode cX3_addRows 127 = .ok (.aload_n 0, 1) := by decide +kernel
theorem dX3_addRows_128 : decode cX3_addRows 128 = .ok (.dup, 1) := by decide +kernel
theorem dX3_addRows_129 : decode cX3_addRows 129 = .ok (.getfield 45, 3) := by decide +kernel
theorem dX3_addRows_132 : decode cX3_addRows 132 = .ok (.iload_n 3, 1) := by decide +kernel
theorem dX3_addRows_133 : decode cX3_addRows 133 = .ok (.iadd, 1) := by decide +kernel
theorem dX3_addRows_134 : decode cX3_addRows 134 = .ok (.putfield 45, 3) := by decide +kernel
theorem dX3_addRows_137 : decode cX3_addRows 137 = .ok (.return_, 1) := by decide +kernel
theorem dX3_bitsOf_0 : decode cX3_bitsOf 0 = .ok (.iconst 1, 1) := by decide +kernel
theorem dX3_bitsOf_1 : decode cX3_bitsOf 1 = .ok (.iload_n 0, 1) := by decide +kernel
theorem dX3_bitsOf_2 : decode cX3_bitsOf 2 = .ok (.bipush 10, 2) := by decide +kernel
theorem dX3_bitsOf_4 : decode cX3_bitsOf 4 = .ok (.idiv, 1) := by decide +kernel
theorem dX3_bitsOf_5 : decode cX3_bitsOf 5 = .ok (.ishl, 1) := by decide +kernel
theorem dX3_bitsOf_6 : decode cX3_bitsOf 6 = .ok (.iconst 1, 1) := by decide +kernel
theorem dX3_bitsOf_7 : decode cX3_bitsOf 7 = .ok (.iload_n 0, 1) := by decide +kernel
theorem dX3_bitsOf_8 : decode cX3_bitsOf 8 = .ok (.bipush 10, 2) := by decide +kernel
theorem dX3_bitsOf_10 : decode cX3_bitsOf 10 = .ok (.irem, 1) := by decide +kernel
theorem dX3_bitsOf_11 : decode cX3_bitsOf 11 = .ok (.ishl, 1) := by decide +kernel
theorem dX3_bitsOf_12 : decode cX3_bitsOf 12 = .ok (.ior, 1) := by decide +kernel
theorem dX3_bitsOf_13 : decode cX3_bitsOf 13 = .ok (.ireturn, 1) := by decide +kernel
theorem dX4_init_0 : decode cX4_init 0 = .ok (.aload_n 0, 1) := by decide +kernel
theorem dX4_init_1 : decode cX4_init 1 = .ok (.invokespecial 3, 3) := by decide +kernel
theorem dX4_init_4 : decode cX4_init 4 = .ok (.aload_n 0, 1) := by decide +kernel
theorem dX4_init_5 : decode cX4_init 5 = .ok (.iconst 1, 1) := by decide +kernel
theorem dX4_init_6 : decode cX4_init 6 = .ok (.putfield 9, 3) := by decide +kernel
theorem dX4_init_9 : decode cX4_init 9 = .ok (.aload_n 0, 1) := by decide +kernel
theorem dX4_init_10 : decode cX4_init 10 = .ok (.iconst 4, 1) := by decide +kernel
theorem dX4_init_11 : decode cX4_init 11 = .ok (.newarray .int, 2) := by decide +kernel
theorem dX4_init_13 : decode cX4_init 13 = .ok (.putfield 15, 3) := by decide +kernel
theorem dX4_init_16 : decode cX4_init 16 = .ok (.aload_n 0, 1) := by decide +kernel
theorem dX4_init_17 : decode cX4_init 17 = .ok (.iconst 4, 1) := by decide +kernel
theorem dX4_init_18 : decode cX4_init 18 = .ok (.newarray .int, 2) := by decide +kernel
theorem dX4_init_20 : decode cX4_init 20 = .ok (.putfield 19, 3) := by decide +kernel
theorem dX4_init_23 : decode cX4_init 23 = .ok (.aload_n 0, 1) := by decide +kernel
theorem dX4_init_24 : decode cX4_init 24 = .ok (.bipush 6, 2) := by decide +kernel
theorem dX4_init_26 : decode cX4_init 26 = .ok (.newarray .int, 2) := by decide +kernel
theorem dX4_init_28 : decode cX4_init 28 = .ok (.putfield 22, 3) := by decide +kernel
theorem dX4_init_31 : decode cX4_init 31 = .ok (.aload_n 0, 1) := by decide +kernel
theorem dX4_init_32 : decode cX4_init 32 = .ok (.bipush 6, 2) := by decide +kernel
theorem dX4_init_34 : decode cX4_init 34 = .ok (.newarray .int, 2) := by decide +kernel
theorem dX4_init_36 : decode cX4_init 36 = .ok (.putfield 25, 3) := by decide +kernel
theorem dX4_init_39 : decode cX4_init 39 = .ok (.aload_n 0, 1) := by decide +kernel
theorem dX4_init_40 : decode cX4_init 40 = .ok (.bipush 6, 2) := by decide +kernel
theorem dX4_init_42 : decode cX4_init 42 = .ok (.newarray .int, 2) := by decide +kernel
theorem dX4_init_44 : decode cX4_init 44 = .ok (.putfield 28, 3) := by decide +kernel
theorem dX4_init_47 : decode cX4_init 47 = .ok (.aload_n 0, 1) := by decide +kernel
theorem dX4_init_48 : decode cX4_init 48 = .ok (.bipush 6, 2) := by decide +kernel
theorem dX4_init_50 : decode cX4_init 50 = .ok (.newarray .int, 2) := by decide +kernel
theorem dX4_init_52 : decode cX4_init 52 = .ok (.putfield 31, 3) := by decide +kernel
theorem dX4_init_55 : decode cX4_init 55 = .ok (.aload_n 0, 1) := by decide +kernel
theorem dX4_init_56 : decode cX4_init 56 = .ok (.bipush 6, 2) := by decide +kernel
theorem dX4_init_58 : decode cX4_init 58 = .ok (.newarray .int, 2) := by decide +kernel
theorem dX4_init_60 : decode cX4_init 60 = .ok (.putfield 34, 3) := by decide +kernel
theorem dX4_init_63 : decode cX4_init 63 = .ok (.aload_n 0, 1) := by decide +kernel
theorem dX4_init_64 : decode cX4_init 64 = .ok (.bipush 7, 2) := by decide +kernel
theorem dX4_init_66 : decode cX4_init 66 = .ok (.newarray .int, 2) := by decide +kernel
theorem dX4_init_68 : decode cX4_init 68 = .ok (.putfield 37, 3) := by decide +kernel
theorem dX4_init_71 : decode cX4_init 71 = .ok (.aload_n 0, 1) := by decide +kernel
theorem dX4_init_72 : decode cX4_init 72 = .ok (.bipush 7, 2) := by decide +kernel
theorem dX4_init_74 : decode cX4_init 74 = .ok (.newarray .int, 2) := by decide +kernel
theorem dX4_init_76 : decode cX4_init 76 = .ok (.putfield 40, 3) := by decide +kernel
theorem dX4_init_79 : decode cX4_init 79 = .ok (.return_, 1) := by decide +kernel
theorem dX4_empty_0 : decode cX4_empty 0 = .ok (.aload_n 0, 1) := by decide +kernel
theorem dX4_empty_1 : decode cX4_empty 1 = .ok (.iconst 0, 1) := by decide +kernel
theorem dX4_empty_2 : decode cX4_empty 2 = .ok (.putfield 43, 3) := by decide +kernel
theorem dX4_empty_5 : decode cX4_empty 5 = .ok (.aload_n 0, 1) := by decide +kernel
theorem dX4_empty_6 : decode cX4_empty 6 = .ok (.iconst 0, 1) := by decide +kernel
theorem dX4_empty_7 : decode cX4_empty 7 = .ok (.putfield 46, 3) := by decide +kernel
theorem dX4_empty_10 : decode cX4_empty 10 = .ok (.aload_n 0, 1) := by decide +kernel
theorem dX4_empty_11 : decode cX4_empty 11 = .ok (.iconst 1, 1) := by decide +kernel
theorem dX4_empty_12 : decode cX4_empty 12 = .ok (.putfield 9, 3) := by decide +kernel
theorem dX4_empty_15 : decode cX4_empty 15 = .ok (.aload_n 0, 1) := by decide +kernel
theorem dX4_empty_16 : decode cX4_empty 16 = .ok (.iconst 0, 1) := by decide +kernel
theorem dX4_empty_17 : decode cX4_empty 17 = .ok (.putfield 49, 3) := by decide +kernel
theorem dX4_empty_20 : decode cX4_empty 20 = .ok (.aload_n 0, 1) := by decide +kernel
theorem dX4_empty_21 : decode cX4_empty 21 = .ok (.iconst 0, 1) := by decide +kernel
theorem dX4_empty_22 : decode cX4_empty 22 = .ok (.putfield 52, 3) := by decide +kernel
theorem dX4_empty_25 : decode cX4_empty 25 = .ok (.return_, 1) := by decide +kernel
theorem dX4_addWalker_0 : decode cX4_addWalker 0 = .ok (.aload_n 0, 1) := by decide +kernel
theorem dX4_addWalker_1 : decode cX4_addWalker 1 = .ok (.getfield 43, 3) := by decide +kernel
theorem dX4_addWalker_4 : decode cX4_addWalker 4 = .ok (.iconst 4, 1) := by decide +kernel
theorem dX4_addWalker_5 : decode cX4_addWalker 5 = .ok (.if_icmp .ge 33, 3) := by decide +kernel
theorem dX4_addWalker_8 : decode cX4_addWalker 8 = .ok (.aload_n 0, 1) := by decide +kernel
theorem dX4_addWalker_9 : decode cX4_addWalker 9 = .ok (.getfield 15, 3) := by decide +kernel
theorem dX4_addWalker_12 : decode cX4_addWalker 12 = .ok (.aload_n 0, 1) := by decide +kernel
theorem dX4_addWalker_13 : decode cX4_addWalker 13 = .ok (.getfield 43, 3) := by decide +kernel
theorem dX4_addWalker_16 : decode cX4_addWalker 16 = .ok (.iload_n 1, 1) := by decide +kernel
theorem dX4_addWalker_17 : decode cX4_addWalker 17 = .ok (.iastore, 1) := by decide +kernel
theorem dX4_addWalker_18 : decode cX4_addWalker 18 = .ok (.aload_n 0, 1) := by decide +kernel
theorem dX4_addWalker_19 : decode cX4_addWalker 19 = .ok (.getfield 19, 3) := by decide +kernel
theorem dX4_addWalker_22 : decode cX4_addWalker 22 = .ok (.aload_n 0, 1) := by decide +kernel
theorem dX4_addWalker_23 : decode cX4_addWalker 23 = .ok (.getfield 43, 3) := by decide +kernel
theorem dX4_addWalker_26 : decode cX4_addWalker 26 = .ok (.iload_n 2, 1) := by decide +kernel
theorem dX4_addWalker_27 : decode cX4_addWalker 27 = .ok (.iastore, 1) := by decide +kernel
theorem dX4_addWalker_28 : decode cX4_addWalker 28 = .ok (.aload_n 0, 1) := by decide +kernel
theorem dX4_addWalker_29 : decode cX4_addWalker 29 = .ok (.dup, 1) := by decide +kernel
theorem dX4_addWalker_30 : decode cX4_addWalker 30 = .ok (.getfield 43, 3) := by decide +kernel
theorem dX4_addWalker_33 : decode cX4_addWalker 33 = .ok (.iconst 1, 1) := by decide +kernel
theorem dX4_addWalker_34 : decode cX4_addWalker 34 = .ok (.iadd, 1) := by decide +kernel
theorem dX4_addWalker_35 : decode cX4_addWalker 35 = .ok (.putfield 43, 3) := by decide +kernel
theorem dX4_addWalker_38 : decode cX4_addWalker 38 = .ok (.return_, 1) := by decide +kernel
theorem dX4_addStretch_0 : decode cX4_addStretch 0 = .ok (.aload_n 0, 1) := by decide +kernel
theorem dX4_addStretch_1 : decode cX4_addStretch 1 = .ok (.getfield 46, 3) := by decide +kernel
theorem dX4_addStretch_4 : decode cX4_addStretch 4 = .ok (.bipush 6, 2) := by decide +kernel
theorem dX4_addStretch_6 : decode cX4_addStretch 6 = .ok (.if_icmp .ge 54, 3) := by decide +kernel
theorem dX4_addStretch_9 : decode cX4_addStretch 9 = .ok (.aload_n 0, 1) := by decide +kernel
theorem dX4_addStretch_10 : decode cX4_addStretch 10 = .ok (.getfield 22, 3) := by decide +kernel
theorem dX4_addStretch_13 : decode cX4_addStretch 13 = .ok (.aload_n 0, 1) := by decide +kernel
theorem dX4_addStretch_14 : decode cX4_addStretch 14 = .ok (.getfield 46, 3) := by decide +kernel
theorem dX4_addStretch_17 : decode cX4_addStretch 17 = .ok (.iload_n 1, 1) := by decide +kernel
theorem dX4_addStretch_18 : decode cX4_addStretch 18 = .ok (.iastore, 1) := by decide +kernel
theorem dX4_addStretch_19 : decode cX4_addStretch 19 = .ok (.aload_n 0, 1) := by decide +kernel
theorem dX4_addStretch_20 : decode cX4_addStretch 20 = .ok (.getfield 25, 3) := by decide +kernel
theorem dX4_addStretch_23 : decode cX4_addStretch 23 = .ok (.aload_n 0, 1) := by decide +kernel
theorem dX4_addStretch_24 : decode cX4_addStretch 24 = .ok (.getfield 46, 3) := by decide +kernel
theorem dX4_addStretch_27 : decode cX4_addStretch 27 = .ok (.iload_n 2, 1) := by decide +kernel
theorem dX4_addStretch_28 : decode cX4_addStretch 28 = .ok (.iastore, 1) := by decide +kernel
theorem dX4_addStretch_29 : decode cX4_addStretch 29 = .ok (.aload_n 0, 1) := by decide +kernel
theorem dX4_addStretch_30 : decode cX4_addStretch 30 = .ok (.getfield 28, 3) := by decide +kernel
theorem dX4_addStretch_33 : decode cX4_addStretch 33 = .ok (.aload_n 0, 1) := by decide +kernel
theorem dX4_addStretch_34 : decode cX4_addStretch 34 = .ok (.getfield 46, 3) := by decide +kernel
theorem dX4_addStretch_37 : decode cX4_addStretch 37 = .ok (.iload_n 3, 1) := by decide +kernel
theorem dX4_addStretch_38 : decode cX4_addStretch 38 = .ok (.iastore, 1) := by decide +kernel
theorem dX4_addStretch_39 : decode cX4_addStretch 39 = .ok (.aload_n 0, 1) := by decide +kernel
theorem dX4_addStretch_40 : decode cX4_addStretch 40 = .ok (.getfield 31, 3) := by decide +kernel
theorem dX4_addStretch_43 : decode cX4_addStretch 43 = .ok (.aload_n 0, 1) := by decide +kernel
theorem dX4_addStretch_44 : decode cX4_addStretch 44 = .ok (.getfield 46, 3) := by decide +kernel
theorem dX4_addStretch_47 : decode cX4_addStretch 47 = .ok (.iload 4, 2) := by decide +kernel
theorem dX4_addStretch_49 : decode cX4_addStretch 49 = .ok (.iastore, 1) := by decide +kernel
theorem dX4_addStretch_50 : decode cX4_addStretch 50 = .ok (.aload_n 0, 1) := by decide +kernel
theorem dX4_addStretch_51 : decode cX4_addStretch 51 = .ok (.dup, 1) := by decide +kernel
theorem dX4_addStretch_52 : decode cX4_addStretch 52 = .ok (.getfield 46, 3) := by decide +kernel
theorem dX4_addStretch_55 : decode cX4_addStretch 55 = .ok (.iconst 1, 1) := by decide +kernel
theorem dX4_addStretch_56 : decode cX4_addStretch 56 = .ok (.iadd, 1) := by decide +kernel
theorem dX4_addStretch_57 : decode cX4_addStretch 57 = .ok (.putfield 46, 3) := by decide +kernel
theorem dX4_addStretch_60 : decode cX4_addStretch 60 = .ok (.return_, 1) := by decide +kernel
theorem dX4_prepare_0 : decode cX4_prepare 0 = .ok (.aload_n 0, 1) := by decide +kernel
theorem dX4_prepare_1 : decode cX4_prepare 1 = .ok (.iconst 0, 1) := by decide +kernel
theorem dX4_prepare_2 : decode cX4_prepare 2 = .ok (.putfield 52, 3) := by decide +kernel
theorem dX4_prepare_5 : decode cX4_prepare 5 = .ok (.iconst 0, 1) := by decide +kernel
theorem dX4_prepare_6 : decode cX4_prepare 6 = .ok (.istore_n 1, 1) := by decide +kernel
theorem dX4_prepare_7 : decode cX4_prepare 7 = .ok (.iload_n 1, 1) := by decide +kernel
theorem dX4_prepare_8 : decode cX4_prepare 8 = .ok (.aload_n 0, 1) := by decide +kernel
theorem dX4_prepare_9 : decode cX4_prepare 9 = .ok (.getfield 43, 3) := by decide +kernel
theorem dX4_prepare_12 : decode cX4_prepare 12 = .ok (.if_icmp .ge 61, 3) := by decide +kernel
theorem dX4_prepare_15 : decode cX4_prepare 15 = .ok (.iload_n 1, 1) := by decide +kernel
theorem dX4_prepare_16 : decode cX4_prepare 16 = .ok (.iconst 1, 1) := by decide +kernel
theorem dX4_prepare_17 : decode cX4_prepare 17 = .ok (.iadd, 1) := by decide +kernel
theorem dX4_prepare_18 : decode cX4_prepare 18 = .ok (.istore_n 2, 1) := by decide +kernel
theorem dX4_prepare_19 : decode cX4_prepare 19 = .ok (.iload_n 2, 1) := by decide +kernel
theorem dX4_prepare_20 : decode cX4_prepare 20 = .ok (.aload_n 0, 1) := by decide +kernel
theorem dX4_prepare_21 : decode cX4_prepare 21 = .ok (.getfield 43, 3) := by decide +kernel
theorem dX4_prepare_24 : decode cX4_prepare 24 = .ok (.if_icmp .ge 43, 3) := by decide +kernel
theorem dX4_prepare_27 : decode cX4_prepare 27 = .ok (.aload_n 0, 1) := by decide +kernel
theorem dX4_prepare_28 : decode cX4_prepare 28 = .ok (.getfield 52, 3) := by decide +kernel
theorem dX4_prepare_31 : decode cX4_prepare 31 = .ok (.bipush 6, 2) := by decide +kernel
theorem dX4_prepare_33 : decode cX4_prepare 33 = .ok (.if_icmp .ge 34, 3) := by decide +kernel
theorem dX4_prepare_36 : decode cX4_prepare 36 = .ok (.aload_n 0, 1) := by decide +kernel
theorem dX4_prepare_37 : decode cX4_prepare 37 = .ok (.getfield 34, 3) := by decide +kernel
theorem dX4_prepare_40 : decode cX4_prepare 40 = .ok (.aload_n 0, 1) := by decide +kernel
theorem dX4_prepare_41 : decode cX4_prepare 41 = .ok (.getfield 52, 3) := by decide +kernel
theorem dX4_prepare_44 : decode cX4_prepare 44 = .ok (.bipush 10, 2) := by decide +kernel
theorem dX4_prepare_46 : decode cX4_prepare 46 = .ok (.iload_n 1, 1) := by decide +kernel
theorem dX4_prepare_47 : decode cX4_prepare 47 = .ok (.imul, 1) := by decide +kernel
theorem dX4_prepare_48 : decode cX4_prepare 48 = .ok (.iload_n 2, 1) := by decide +kernel
theorem dX4_prepare_49 : decode cX4_prepare 49 = .ok (.iadd, 1) := by decide +kernel
theorem dX4_prepare_50 : decode cX4_prepare 50 = .ok (.iastore, 1) := by decide +kernel
theorem dX4_prepare_51 : decode cX4_prepare 51 = .ok (.aload_n 0, 1) := by decide +kernel
theorem dX4_prepare_52 : decode cX4_prepare 52 = .ok (.dup, 1) := by decide +kernel
theorem dX4_prepare_53 : decode cX4_prepare 53 = .ok (.getfield 52, 3) := by decide +kernel
theorem dX4_prepare_56 : decode cX4_prepare 56 = .ok (.iconst 1, 1) := by decide +kernel
theorem dX4_prepare_57 : decode cX4_prepare 57 = .ok (.iadd, 1) := by decide +kernel
theorem dX4_prepare_58 : decode cX4_prepare 58 = .ok (.putfield 52, 3) := by decide +kernel
theorem dX4_prepare_61 : decode cX4_prepare 61 = .ok (.iinc 2 1, 3) := by decide +kernel
theorem dX4_prepare_64 : decode cX4_prepare 64 = .ok (.goto (-45), 3) := by decide +kernel
theorem dX4_prepare_67 : decode cX4_prepare 67 = .ok (.iinc 1 1, 3) := by decide +kernel
theorem dX4_prepare_70 : decode cX4_prepare 70 = .ok (.goto (-63), 3) := by decide +kernel
theorem dX4_prepare_73 : decode cX4_prepare 73 = .ok (.iconst 0, 1) := by decide +kernel
theorem dX4_prepare_74 : decode cX4_prepare 74 = .ok (.istore_n 1, 1) := by decide +kernel
theorem dX4_prepare_75 : decode cX4_prepare 75 = .ok (.iload_n 1, 1) := by decide +kernel
theorem dX4_prepare_76 : decode cX4_prepare 76 = .ok (.aload_n 0, 1) := by decide +kernel
theorem dX4_prepare_77 : decode cX4_prepare 77 = .ok (.getfield 46, 3) := by decide +kernel
theorem dX4_prepare_80 : decode cX4_prepare 80 = .ok (.if_icmp .ge 14, 3) := by decide +kernel
theorem dX4_prepare_83 : decode cX4_prepare 83 = .ok (.aload_n 0, 1) := by decide +kernel
theorem dX4_prepare_84 : decode cX4_prepare 84 = .ok (.iload_n 1, 1) := by decide +kernel
theorem dX4_prepare_85 : decode cX4_prepare 85 = .ok (.invokevirtual 55, 3) := by decide +kernel
theorem dX4_prepare_88 : decode cX4_prepare 88 = .ok (.iinc 1 1, 3) := by decide +kernel
theorem dX4_prepare_91 : decode cX4_prepare 91 = .ok (.goto (-16), 3) := by decide +kernel
theorem dX4_prepare_94 : decode cX4_prepare 94 = .ok (.return_, 1) := by decide +kernel
theorem dX4_boundMinutes_0 : decode cX4_boundMinutes 0 = .ok (.iconst 0, 1) := by decide +kernel
theorem dX4_boundMinutes_1 : decode cX4_boundMinutes 1 = .ok (.istore_n 2, 1) := by decide +kernel
theorem dX4_boundMinutes_2 : decode cX4_boundMinutes 2 = .ok (.iconst 0, 1) := by decide +kernel
theorem dX4_boundMinutes_3 : decode cX4_boundMinutes 3 = .ok (.istore_n 3, 1) := by decide +kernel
theorem dX4_boundMinutes_4 : decode cX4_boundMinutes 4 = .ok (.iconst 0, 1) := by decide +kernel
theorem dX4_boundMinutes_5 : decode cX4_boundMinutes 5 = .ok (.istore 4, 2) := by decide +kernel
theorem dX4_boundMinutes_7 : decode cX4_boundMinutes 7 = .ok (.iload 4, 2) := by decide +kernel
theorem dX4_boundMinutes_9 : decode cX4_boundMinutes 9 = .ok (.aload_n 0, 1) := by decide +kernel
theorem dX4_boundMinutes_10 : decode cX4_boundMinutes 10 = .ok (.getfield 52, 3) := by decide +kernel
theorem dX4_boundMinutes_13 : decode cX4_boundMinutes 13 = .ok (.if_icmp .ge 50, 3) := by decide +kernel
theorem dX4_boundMinutes_16 : decode cX4_boundMinutes 16 = .ok (.aload_n 0, 1) := by decide +kernel
theorem dX4_boundMinutes_17 : decode cX4_boundMinutes 17 = .ok (.iload_n 1, 1) := by decide +kernel
theorem dX4_boundMinutes_18 : decode cX4_boundMinutes 18 = .ok (.aload_n 0, 1) := by decide +kernel
theorem dX4_boundMinutes_19 : decode cX4_boundMinutes 19 = .ok (.getfield 34, 3) := by decide +kernel
theorem dX4_boundMinutes_22 : decode cX4_boundMinutes 22 = .ok (.iload 4, 2) := by decide +kernel
theorem dX4_boundMinutes_24 : decode cX4_boundMinutes 24 = .ok (.iaload, 1) := by decide +kernel
theorem dX4_boundMinutes_25 : decode cX4_boundMinutes 25 = .ok (.invokevirtual 59, 3) := by decide +kernel
theorem dX4_boundMinutes_28 : decode cX4_boundMinutes 28 = .ok (.istore 5, 2) := by decide +kernel
theorem dX4_boundMinutes_30 : decode cX4_boundMinutes 30 = .ok (.iload 4, 2) := by decide +kernel
theorem dX4_boundMinutes_32 : decode cX4_boundMinutes 32 = .ok (.ifCond .ne 8, 3) := by decide +kernel
theorem dX4_boundMinutes_35 : decode cX4_boundMinutes 35 = .ok (.iload 5, 2) := by decide +kernel
theorem dX4_boundMinutes_37 : decode cX4_boundMinutes 37 = .ok (.goto 9, 3) := by decide +kernel
theorem dX4_boundMinutes_40 : decode cX4_boundMinutes 40 = .ok (.iload_n 2, 1) := by decide +kernel
theorem dX4_boundMinutes_41 : decode cX4_boundMinutes 41 = .ok (.iload 5, 2) := by decide +kernel
theorem dX4_boundMinutes_43 : decode cX4_boundMinutes 43 = .ok (.invokestatic 63, 3) := by decide +kernel
theorem dX4_boundMinutes_46 : decode cX4_boundMinutes 46 = .ok (.istore_n 2, 1) := by decide +kernel
theorem dX4_boundMinutes_47 : decode cX4_boundMinutes 47 = .ok (.iload_n 3, 1) := by decide +kernel
theorem dX4_boundMinutes_48 : decode cX4_boundMinutes 48 = .ok (.iload 5, 2) := by decide +kernel
theorem dX4_boundMinutes_50 : decode cX4_boundMinutes 50 = .ok (.bipush 6, 2) := by decide +kernel
theorem dX4_boundMinutes_52 : decode cX4_boundMinutes 52 = .ok (.iadd, 1) := by decide +kernel
theorem dX4_boundMinutes_53 : decode cX4_boundMinutes 53 = .ok (.invokestatic 68, 3) := by decide +kernel
theorem dX4_boundMinutes_56 : decode cX4_boundMinutes 56 = .ok (.istore_n 3, 1) := by decide +kernel
theorem dX4_boundMinutes_57 : decode cX4_boundMinutes 57 = .ok (.iinc 4 1, 3) := by decide +kernel
theorem dX4_boundMinutes_60 : decode cX4_boundMinutes 60 = .ok (.goto (-53), 3) := by decide +kernel
theorem dX4_boundMinutes_63 : decode cX4_boundMinutes 63 = .ok (.aload_n 0, 1) := by decide +kernel
theorem dX4_boundMinutes_64 : decode cX4_boundMinutes 64 = .ok (.getfield 37, 3) := by decide +kernel
theorem dX4_boundMinutes_67 : decode cX4_boundMinutes 67 = .ok (.iload_n 1, 1) := by decide +kernel
theorem dX4_boundMinutes_68 : decode cX4_boundMinutes 68 = .ok (.iconst 1, 1) := by decide +kernel
theorem dX4_boundMinutes_69 : decode cX4_boundMinutes 69 = .ok (.iadd, 1) := by decide +kernel
theorem dX4_boundMinutes_70 : decode cX4_boundMinutes 70 = .ok (.aload_n 0, 1) := by decide +kernel
theorem dX4_boundMinutes_71 : decode cX4_boundMinutes 71 = .ok (.getfield 37, 3) := by decide +kernel
theorem dX4_boundMinutes_74 : decode cX4_boundMinutes 74 = .ok (.iload_n 1, 1) := by decide +kernel
theorem dX4_boundMinutes_75 : decode cX4_boundMinutes 75 = .ok (.iaload, 1) := by decide +kernel
theorem dX4_boundMinutes_76 : decode cX4_boundMinutes 76 = .ok (.iload_n 2, 1) := by decide +kernel
theorem dX4_boundMinutes_77 : decode cX4_boundMinutes 77 = .ok (.aload_n 0, 1) := by decide +kernel
theorem dX4_boundMinutes_78 : decode cX4_boundMinutes 78 = .ok (.getfield 22, 3) := by decide +kernel
theorem dX4_boundMinutes_81 : decode cX4_boundMinutes 81 = .ok (.iload_n 1, 1) := by decide +kernel
theorem dX4_boundMinutes_82 : decode cX4_boundMinutes 82 = .ok (.iaload, 1) := by decide +kernel
theorem dX4_boundMinutes_83 : decode cX4_boundMinutes 83 = .ok (.imul, 1) := by decide +kernel
theorem dX4_boundMinutes_84 : decode cX4_boundMinutes 84 = .ok (.iadd, 1) := by decide +kernel
theorem dX4_boundMinutes_85 : decode cX4_boundMinutes 85 = .ok (.iastore, 1) := by decide +kernel
theorem dX4_boundMinutes_86 : decode cX4_boundMinutes 86 = .ok (.aload_n 0, 1) := by decide +kernel
theorem dX4_boundMinutes_87 : decode cX4_boundMinutes 87 = .ok (.getfield 40, 3) := by decide +kernel
theorem dX4_boundMinutes_90 : decode cX4_boundMinutes 90 = .ok (.iload_n 1, 1) := by decide +kernel
theorem dX4_boundMinutes_91 : decode cX4_boundMinutes 91 = .ok (.iconst 1, 1) := by decide +kernel
theorem dX4_boundMinutes_92 : decode cX4_boundMinutes 92 = .ok (.iadd, 1) := by decide +kernel
theorem dX4_boundMinutes_93 : decode cX4_boundMinutes 93 = .ok (.aload_n 0, 1) := by decide +kernel
theorem dX4_boundMinutes_94 : decode cX4_boundMinutes 94 = .ok (.getfield 40, 3) := by decide +kernel
theorem dX4_boundMinutes_97 : decode cX4_boundMinutes 97 = .ok (.iload_n 1, 1) := by decide +kernel
theorem dX4_boundMinutes_98 : decode cX4_boundMinutes 98 = .ok (.iaload, 1) := by decide +kernel
theorem dX4_boundMinutes_99 : decode cX4_boundMinutes 99 = .ok (.iload_n 3, 1) := by decide +kernel
theorem dX4_boundMinutes_100 : decode cX4_boundMinutes 100 = .ok (.aload_n 0, 1) := by decide +kernel
theorem dX4_boundMinutes_101 : decode cX4_boundMinutes 101 = .ok (.getfield 22, 3) := by decide +kernel
theorem dX4_boundMinutes_104 : decode cX4_boundMinutes 104 = .ok (.iload_n 1, 1) := by decide +kernel
theorem dX4_boundMinutes_105 : decode cX4_boundMinutes 105 = .ok (.iaload, 1) := by decide +kernel
theorem dX4_boundMinutes_106 : decode cX4_boundMinutes 106 = .ok (.imul, 1) := by decide +kernel
theorem dX4_boundMinutes_107 : decode cX4_boundMinutes 107 = .ok (.iadd, 1) := by decide +kernel
theorem dX4_boundMinutes_108 : decode cX4_boundMinutes 108 = .ok (.aload_n 0, 1) := by decide +kernel
theorem dX4_boundMinutes_109 : decode cX4_boundMinutes 109 = .ok (.getfield 9, 3) := by decide +kernel
theorem dX4_boundMinutes_112 : decode cX4_boundMinutes 112 = .ok (.iadd, 1) := by decide +kernel
theorem dX4_boundMinutes_113 : decode cX4_boundMinutes 113 = .ok (.iastore, 1) := by decide +kernel
theorem dX4_boundMinutes_114 : decode cX4_boundMinutes 114 = .ok (.return_, 1) := by decide +kernel
theorem dX4_hasStretch_0 : decode cX4_hasStretch 0 = .ok (.iload_n 1, 1) := by decide +kernel
theorem dX4_hasStretch_1 : decode cX4_hasStretch 1 = .ok (.ifCond .lt 15, 3) := by decide +kernel
theorem dX4_hasStretch_4 : decode cX4_hasStretch 4 = .ok (.iload_n 1, 1) := by decide +kernel
theorem dX4_hasStretch_5 : decode cX4_hasStretch 5 = .ok (.aload_n 0, 1) := by decide +kernel
theorem dX4_hasStretch_6 : decode cX4_hasStretch 6 = .ok (.getfield 46, 3) := by decide +kernel
theorem dX4_hasStretch_9 : decode cX4_hasStretch 9 = .ok (.if_icmp .ge 7, 3) := by decide +kernel
theorem dX4_hasStretch_12 : decode cX4_hasStretch 12 = .ok (.iconst 1, 1) := by decide +kernel
theorem dX4_hasStretch_13 : decode cX4_hasStretch 13 = .ok (.goto 4, 3) := by decide +kernel
theorem dX4_hasStretch_16 : decode cX4_hasStretch 16 = .ok (.iconst 0, 1) := by decide +kernel
theorem dX4_hasStretch_17 : decode cX4_hasStretch 17 = .ok (.ireturn, 1) := by decide +kernel
theorem dX4_hasPair_0 : decode cX4_hasPair 0 = .ok (.iload_n 1, 1) := by decide +kernel
theorem dX4_hasPair_1 : decode cX4_hasPair 1 = .ok (.ifCond .lt 29, 3) := by decide +kernel
theorem dX4_hasPair_4 : decode cX4_hasPair 4 = .ok (.iload_n 1, 1) := by decide +kernel
theorem dX4_hasPair_5 : decode cX4_hasPair 5 = .ok (.bipush 10, 2) := by decide +kernel
theorem dX4_hasPair_7 : decode cX4_hasPair 7 = .ok (.idiv, 1) := by decide +kernel
theorem dX4_hasPair_8 : decode cX4_hasPair 8 = .ok (.iload_n 1, 1) := by decide +kernel
theorem dX4_hasPair_9 : decode cX4_hasPair 9 = .ok (.bipush 10, 2) := by decide +kernel
theorem dX4_hasPair_11 : decode cX4_hasPair 11 = .ok (.irem, 1) := by decide +kernel
theorem dX4_hasPair_12 : decode cX4_hasPair 12 = .ok (.if_icmp .ge 18, 3) := by decide +kernel
theorem dX4_hasPair_15 : decode cX4_hasPair 15 = .ok (.iload_n 1, 1) := by decide +kernel
theorem dX4_hasPair_16 : decode cX4_hasPair 16 = .ok (.bipush 10, 2) := by decide +kernel
theorem dX4_hasPair_18 : decode cX4_hasPair 18 = .ok (.irem, 1) := by decide +kernel
theorem dX4_hasPair_19 : decode cX4_hasPair 19 = .ok (.aload_n 0, 1) := by decide +kernel
theorem dX4_hasPair_20 : decode cX4_hasPair 20 = .ok (.getfield 43, 3) := by decide +kernel
theorem dX4_hasPair_23 : decode cX4_hasPair 23 = .ok (.if_icmp .ge 7, 3) := by decide +kernel
theorem dX4_hasPair_26 : decode cX4_hasPair 26 = .ok (.iconst 1, 1) := by decide +kernel
theorem dX4_hasPair_27 : decode cX4_hasPair 27 = .ok (.goto 4, 3) := by decide +kernel
theorem dX4_hasPair_30 : decode cX4_hasPair 30 = .ok (.iconst 0, 1) := by decide +kernel
theorem dX4_hasPair_31 : decode cX4_hasPair 31 = .ok (.ireturn, 1) := by decide +kernel
theorem dX4_unwornRate_0 : decode cX4_unwornRate 0 = .ok (.aload_n 0, 1) := by decide +kernel
theorem dX4_unwornRate_1 : decode cX4_unwornRate 1 = .ok (.getfield 15, 3) := by decide +kernel
theorem dX4_unwornRate_4 : decode cX4_unwornRate 4 = .ok (.iload_n 2, 1) := by decide +kernel
theorem dX4_unwornRate_5 : decode cX4_unwornRate 5 = .ok (.bipush 10, 2) := by decide +kernel
theorem dX4_unwornRate_7 : decode cX4_unwornRate 7 = .ok (.idiv, 1) := by decide +kernel
theorem dX4_unwornRate_8 : decode cX4_unwornRate 8 = .ok (.iaload, 1) := by decide +kernel
theorem dX4_unwornRate_9 : decode cX4_unwornRate 9 = .ok (.aload_n 0, 1) := by decide +kernel
theorem dX4_unwornRate_10 : decode cX4_unwornRate 10 = .ok (.getfield 15, 3) := by decide +kernel
theorem dX4_unwornRate_13 : decode cX4_unwornRate 13 = .ok (.iload_n 2, 1) := by decide +kernel
theorem dX4_unwornRate_14 : decode cX4_unwornRate 14 = .ok (.bipush 10, 2) := by decide +kernel
theorem dX4_unwornRate_16 : decode cX4_unwornRate 16 = .ok (.irem, 1) := by decide +kernel
theorem dX4_unwornRate_17 : decode cX4_unwornRate 17 = .ok (.iaload, 1) := by decide +kernel
theorem dX4_unwornRate_18 : decode cX4_unwornRate 18 = .ok (.iadd, 1) := by decide +kernel
theorem dX4_unwornRate_19 : decode cX4_unwornRate 19 = .ok (.istore_n 3, 1) := by decide +kernel
theorem dX4_unwornRate_20 : decode cX4_unwornRate 20 = .ok (.iconst 4, 1) := by decide +kernel
theorem dX4_unwornRate_21 : decode cX4_unwornRate 21 = .ok (.aload_n 0, 1) := by decide +kernel
theorem dX4_unwornRate_22 : decode cX4_unwornRate 22 = .ok (.getfield 28, 3) := by decide +kernel
theorem dX4_unwornRate_25 : decode cX4_unwornRate 25 = .ok (.iload_n 1, 1) := by decide +kernel
theorem dX4_unwornRate_26 : decode cX4_unwornRate 26 = .ok (.iaload, 1) := by decide +kernel
theorem dX4_unwornRate_27 : decode cX4_unwornRate 27 = .ok (.iadd, 1) := by decide +kernel
theorem dX4_unwornRate_28 : decode cX4_unwornRate 28 = .ok (.istore 4, 2) := by decide +kernel
theorem dX4_unwornRate_30 : decode cX4_unwornRate 30 = .ok (.aload_n 0, 1) := by decide +kernel
theorem dX4_unwornRate_31 : decode cX4_unwornRate 31 = .ok (.getfield 25, 3) := by decide +kernel
theorem dX4_unwornRate_34 : decode cX4_unwornRate 34 = .ok (.iload_n 1, 1) := by decide +kernel
theorem dX4_unwornRate_35 : decode cX4_unwornRate 35 = .ok (.iaload, 1) := by decide +kernel
theorem dX4_unwornRate_36 : decode cX4_unwornRate 36 = .ok (.iload_n 3, 1) := by decide +kernel
theorem dX4_unwornRate_37 : decode cX4_unwornRate 37 = .ok (.if_icmp .le 6, 3) := by decide +kernel
theorem dX4_unwornRate_40 : decode cX4_unwornRate 40 = .ok (.iinc 4 2, 3) := by decide +kernel
theorem dX4_unwornRate_43 : decode cX4_unwornRate 43 = .ok (.aload_n 0, 1) := by decide +kernel
theorem dX4_unwornRate_44 : decode cX4_unwornRate 44 = .ok (.getfield 25, 3) := by decide +kernel
theorem dX4_unwornRate_47 : decode cX4_unwornRate 47 = .ok (.iload_n 1, 1) := by decide +kernel
theorem dX4_unwornRate_48 : decode cX4_unwornRate 48 = .ok (.iaload, 1) := by decide +kernel
theorem dX4_unwornRate_49 : decode cX4_unwornRate 49 = .ok (.iload_n 3, 1) := by decide +kernel
theorem dX4_unwornRate_50 : decode cX4_unwornRate 50 = .ok (.iconst 4, 1) := by decide +kernel
theorem dX4_unwornRate_51 : decode cX4_unwornRate 51 = .ok (.isub, 1) := by decide +kernel
theorem dX4_unwornRate_52 : decode cX4_unwornRate 52 = .ok (.if_icmp .ge 6, 3) := by decide +kernel
theorem dX4_unwornRate_55 : decode cX4_unwornRate 55 = .ok (.iinc 4 1, 3) := by decide +kernel
theorem dX4_unwornRate_58 : decode cX4_unwornRate 58 = .ok (.iload 4, 2) := by decide +kernel
theorem dX4_unwornRate_60 : decode cX4_unwornRate 60 = .ok (.ireturn, 1) := by decide +kernel
theorem dX4_furlongs_0 : decode cX4_furlongs 0 = .ok (.iconst 0, 1) := by decide +kernel
theorem dX4_furlongs_1 : decode cX4_furlongs 1 = .ok (.istore_n 3, 1) := by decide +kernel
theorem dX4_furlongs_2 : decode cX4_furlongs 2 = .ok (.iload_n 1, 1) := by decide +kernel
theorem dX4_furlongs_3 : decode cX4_furlongs 3 = .ok (.iconst 0, 1) := by decide +kernel
theorem dX4_furlongs_4 : decode cX4_furlongs 4 = .ok (.invokestatic 68, 3) := by decide +kernel
theorem dX4_furlongs_7 : decode cX4_furlongs 7 = .ok (.istore 4, 2) := by decide +kernel
theorem dX4_furlongs_9 : decode cX4_furlongs 9 = .ok (.iload 4, 2) := by decide +kernel
theorem dX4_furlongs_11 : decode cX4_furlongs 11 = .ok (.iload_n 2, 1) := by decide +kernel
theorem dX4_furlongs_12 : decode cX4_furlongs 12 = .ok (.if_icmp .ge 28, 3) := by decide +kernel
theorem dX4_furlongs_15 : decode cX4_furlongs 15 = .ok (.iload 4, 2) := by decide +kernel
theorem dX4_furlongs_17 : decode cX4_furlongs 17 = .ok (.aload_n 0, 1) := by decide +kernel
theorem dX4_furlongs_18 : decode cX4_furlongs 18 = .ok (.getfield 46, 3) := by decide +kernel
theorem dX4_furlongs_21 : decode cX4_furlongs 21 = .ok (.if_icmp .ge 19, 3) := by decide +kernel
theorem dX4_furlongs_24 : decode cX4_furlongs 24 = .ok (.iload_n 3, 1) := by decide +kernel
theorem dX4_furlongs_25 : decode cX4_furlongs 25 = .ok (.aload_n 0, 1) := by decide +kernel
theorem dX4_furlongs_26 : decode cX4_furlongs 26 = .ok (.getfield 22, 3) := by decide +kernel
theorem dX4_furlongs_29 : decode cX4_furlongs 29 = .ok (.iload 4, 2) := by decide +kernel
theorem dX4_furlongs_31 : decode cX4_furlongs 31 = .ok (.iaload, 1) := by decide +kernel
theorem dX4_furlongs_32 : decode cX4_furlongs 32 = .ok (.iadd, 1) := by decide +kernel
theorem dX4_furlongs_33 : decode cX4_furlongs 33 = .ok (.istore_n 3, 1) := by decide +kernel
theorem dX4_furlongs_34 : decode cX4_furlongs 34 = .ok (.iinc 4 1, 3) := by decide +kernel
theorem dX4_furlongs_37 : decode cX4_furlongs 37 = .ok (.goto (-28), 3) := by decide +kernel
theorem dX4_furlongs_40 : decode cX4_furlongs 40 = .ok (.iload_n 3, 1) := by decide +kernel
theorem dX4_furlongs_41 : decode cX4_furlongs 41 = .ok (.ireturn, 1) := by decide +kernel
theorem dX4_furlongsOf_0 : decode cX4_furlongsOf 0 = .ok (.iconst 0, 1) := by decide +kernel
theorem dX4_furlongsOf_1 : decode cX4_furlongsOf 1 = .ok (.istore_n 2, 1) := by decide +kernel
theorem dX4_furlongsOf_2 : decode cX4_furlongsOf 2 = .ok (.iconst 0, 1) := by decide +kernel
theorem dX4_furlongsOf_3 : decode cX4_furlongsOf 3 = .ok (.istore_n 3, 1) := by decide +kernel
theorem dX4_furlongsOf_4 : decode cX4_furlongsOf 4 = .ok (.iload_n 3, 1) := by decide +kernel
theorem dX4_furlongsOf_5 : decode cX4_furlongsOf 5 = .ok (.aload_n 0, 1) := by decide +kernel
theorem dX4_furlongsOf_6 : decode cX4_furlongsOf 6 = .ok (.getfield 46, 3) := by decide +kernel
theorem dX4_furlongsOf_9 : decode cX4_furlongsOf 9 = .ok (.if_icmp .ge 27, 3) := by decide +kernel
theorem dX4_furlongsOf_12 : decode cX4_furlongsOf 12 = .ok (.iload_n 1, 1) := by decide +kernel
theorem dX4_furlongsOf_13 : decode cX4_furlongsOf 13 = .ok (.iload_n 3, 1) := by decide +kernel
theorem dX4_furlongsOf_14 : decode cX4_furlongsOf 14 = .ok (.ishr, 1) := by decide +kernel
theorem dX4_furlongsOf_15 : decode cX4_furlongsOf 15 = .ok (.iconst 1, 1) := by decide +kernel
theorem dX4_furlongsOf_16 : decode cX4_furlongsOf 16 = .ok (.iand, 1) := by decide +kernel
theorem dX4_furlongsOf_17 : decode cX4_furlongsOf 17 = .ok (.iconst 1, 1) := by decide +kernel
theorem dX4_furlongsOf_18 : decode cX4_furlongsOf 18 = .ok (.if_icmp .ne 12, 3) := by decide +kernel
theorem dX4_furlongsOf_21 : decode cX4_furlongsOf 21 = .ok (.iload_n 2, 1) := by decide +kernel
theorem dX4_furlongsOf_22 : decode cX4_furlongsOf 22 = .ok (.aload_n 0, 1) := by decide +kernel
theorem dX4_furlongsOf_23 : decode cX4_furlongsOf 23 = .ok (.getfield 22, 3) := by decide +kernel
theorem dX4_furlongsOf_26 : decode cX4_furlongsOf 26 = .ok (.iload_n 3, 1) := by decide +kernel
theorem dX4_furlongsOf_27 : decode cX4_furlongsOf 27 = .ok (.iaload, 1) := by decide +kernel
theorem dX4_furlongsOf_28 : decode cX4_furlongsOf 28 = .ok (.iadd, 1) := by decide +kernel
theorem dX4_furlongsOf_29 : decode cX4_furlongsOf 29 = .ok (.istore_n 2, 1) := by decide +kernel
theorem dX4_furlongsOf_30 : decode cX4_furlongsOf 30 = .ok (.iinc 3 1, 3) := by decide +kernel
theorem dX4_furlongsOf_33 : decode cX4_furlongsOf 33 = .ok (.goto (-29), 3) := by decide +kernel
theorem dX4_furlongsOf_36 : decode cX4_furlongsOf 36 = .ok (.iload_n 2, 1) := by decide +kernel
theorem dX4_furlongsOf_37 : decode cX4_furlongsOf 37 = .ok (.ireturn, 1) := by decide +kernel
theorem dX4_slimyFrom_0 : decode cX4_slimyFrom 0 = .ok (.iconst 0, 1) := by decide +kernel
theorem dX4_slimyFrom_1 : decode cX4_slimyFrom 1 = .ok (.istore_n 2, 1) := by decide +kernel
theorem dX4_slimyFrom_2 : decode cX4_slimyFrom 2 = .ok (.iload_n 1, 1) := by decide +kernel
theorem dX4_slimyFrom_3 : decode cX4_slimyFrom 3 = .ok (.iconst 0, 1) := by decide +kernel
theorem dX4_slimyFrom_4 : decode cX4_slimyFrom 4 = .ok (.invokestatic 68, 3) := by decide +kernel
theorem dX4_slimyFrom_7 : decode cX4_slimyFrom 7 = .ok (.istore_n 3, 1) := by decide +kernel
theorem dX4_slimyFrom_8 : decode cX4_slimyFrom 8 = .ok (.iload_n 3, 1) := by decide +kernel
theorem dX4_slimyFrom_9 : decode cX4_slimyFrom 9 = .ok (.aload_n 0, 1) := by decide +kernel
theorem dX4_slimyFrom_10 : decode cX4_slimyFrom 10 = .ok (.getfield 46, 3) := by decide +kernel
theorem dX4_slimyFrom_13 : decode cX4_slimyFrom 13 = .ok (.if_icmp .ge 18, 3) := by decide +kernel
theorem dX4_slimyFrom_16 : decode cX4_slimyFrom 16 = .ok (.iload_n 2, 1) := by decide +kernel
theorem dX4_slimyFrom_17 : decode cX4_slimyFrom 17 = .ok (.aload_n 0, 1) := by decide +kernel
theorem dX4_slimyFrom_18 : decode cX4_slimyFrom 18 = .ok (.getfield 28, 3) := by decide +kernel
theorem dX4_slimyFrom_21 : decode cX4_slimyFrom 21 = .ok (.iload_n 3, 1) := by decide +kernel
theorem dX4_slimyFrom_22 : decode cX4_slimyFrom 22 = .ok (.iaload, 1) := by decide +kernel
theorem dX4_slimyFrom_23 : decode cX4_slimyFrom 23 = .ok (.iadd, 1) := by decide +kernel
theorem dX4_slimyFrom_24 : decode cX4_slimyFrom 24 = .ok (.istore_n 2, 1) := by decide +kernel
theorem dX4_slimyFrom_25 : decode cX4_slimyFrom 25 = .ok (.iinc 3 1, 3) := by decide +kernel
theorem dX4_slimyFrom_28 : decode cX4_slimyFrom 28 = .ok (.goto (-20), 3) := by decide +kernel
theorem dX4_slimyFrom_31 : decode cX4_slimyFrom 31 = .ok (.iload_n 2, 1) := by decide +kernel
theorem dX4_slimyFrom_32 : decode cX4_slimyFrom 32 = .ok (.ireturn, 1) := by decide +kernel
theorem dX4_shafts_0 : decode cX4_shafts 0 = .ok (.iconst 0, 1) := by decide +kernel
theorem dX4_shafts_1 : decode cX4_shafts 1 = .ok (.istore_n 1, 1) := by decide +kernel
theorem dX4_shafts_2 : decode cX4_shafts 2 = .ok (.iconst 0, 1) := by decide +kernel
theorem dX4_shafts_3 : decode cX4_shafts 3 = .ok (.istore_n 2, 1) := by decide +kernel
theorem dX4_shafts_4 : decode cX4_shafts 4 = .ok (.iload_n 2, 1) := by decide +kernel
theorem dX4_shafts_5 : decode cX4_shafts 5 = .ok (.aload_n 0, 1) := by decide +kernel
theorem dX4_shafts_6 : decode cX4_shafts 6 = .ok (.getfield 46, 3) := by decide +kernel
theorem dX4_shafts_9 : decode cX4_shafts 9 = .ok (.if_icmp .ge 18, 3) := by decide +kernel
theorem dX4_shafts_12 : decode cX4_shafts 12 = .ok (.iload_n 1, 1) := by decide +kernel
theorem dX4_shafts_13 : decode cX4_shafts 13 = .ok (.aload_n 0, 1) := by decide +kernel
theorem dX4_shafts_14 : decode cX4_shafts 14 = .ok (.getfield 31, 3) := by decide +kernel
theorem dX4_shafts_17 : decode cX4_shafts 17 = .ok (.iload_n 2, 1) := by decide +kernel
theorem dX4_shafts_18 : decode cX4_shafts 18 = .ok (.iaload, 1) := by decide +kernel
theorem dX4_shafts_19 : decode cX4_shafts 19 = .ok (.iadd, 1) := by decide +kernel
theorem dX4_shafts_20 : decode cX4_shafts 20 = .ok (.istore_n 1, 1) := by decide +kernel
theorem dX4_shafts_21 : decode cX4_shafts 21 = .ok (.iinc 2 1, 3) := by decide +kernel
theorem dX4_shafts_24 : decode cX4_shafts 24 = .ok (.goto (-20), 3) := by decide +kernel
theorem dX4_shafts_27 : decode cX4_shafts 27 = .ok (.iload_n 1, 1) := by decide +kernel
theorem dX4_shafts_28 : decode cX4_shafts 28 = .ok (.ireturn, 1) := by decide +kernel
theorem dX4_isFree_0 : decode cX4_isFree 0 = .ok (.aload_n 0, 1) := by decide +kernel
theorem dX4_isFree_1 : decode cX4_isFree 1 = .ok (.getfield 49, 3) := by decide +kernel
theorem dX4_isFree_4 : decode cX4_isFree 4 = .ok (.ifCond .eq 14, 3) := by decide +kernel
theorem dX4_isFree_7 : decode cX4_isFree 7 = .ok (.iload_n 1, 1) := by decide +kernel
theorem dX4_isFree_8 : decode cX4_isFree 8 = .ok (.aload_n 0, 1) := by decide +kernel
theorem dX4_isFree_9 : decode cX4_isFree 9 = .ok (.getfield 49, 3) := by decide +kernel
theorem dX4_isFree_12 : decode cX4_isFree 12 = .ok (.idiv, 1) := by decide +kernel
theorem dX4_isFree_13 : decode cX4_isFree 13 = .ok (.iconst 2, 1) := by decide +kernel
theorem dX4_isFree_14 : decode cX4_isFree 14 = .ok (.irem, 1) := by decide +kernel
theorem dX4_isFree_15 : decode cX4_isFree 15 = .ok (.ifCond .ne 7, 3) := by decide +kernel
theorem dX4_isFree_18 : decode cX4_isFree 18 = .ok (.iconst 1, 1) := by decide +kernel
theorem dX4_isFree_19 : decode cX4_isFree 19 = .ok (.goto 4, 3) := by decide +kernel
theorem dX4_isFree_22 : decode cX4_isFree 22 = .ok (.iconst 0, 1) := by decide +kernel
theorem dX4_isFree_23 : decode cX4_isFree 23 = .ok (.ireturn, 1) := by decide +kernel
theorem dX4_freeMinutesLeft_0 : decode cX4_freeMinutesLeft 0 = .ok (.aload_n 0, 1) := by decide +kernel
theorem dX4_freeMinutesLeft_1 : decode cX4_freeMinutesLeft 1 = .ok (.getfield 49, 3) := by decide +kernel
theorem dX4_freeMinutesLeft_4 : decode cX4_freeMinutesLeft 4 = .ok (.ifCond .ne 9, 3) := by decide +kernel
theorem dX4_freeMinutesLeft_7 : decode cX4_freeMinutesLeft 7 = .ok (.sipush 9999, 3) := by decide +kernel
theorem dX4_freeMinutesLeft_10 : decode cX4_freeMinutesLeft 10 = .ok (.goto 14, 3) := by decide +kernel
theorem dX4_freeMinutesLeft_13 : decode cX4_freeMinutesLeft 13 = .ok (.aload_n 0, 1) := by decide +kernel
theorem dX4_freeMinutesLeft_14 : decode cX4_freeMinutesLeft 14 = .ok (.getfield 49, 3) := by decide +kernel
theorem dX4_freeMinutesLeft_17 : decode cX4_freeMinutesLeft 17 = .ok (.iload_n 1, 1) := by decide +kernel
theorem dX4_freeMinutesLeft_18 : decode cX4_freeMinutesLeft 18 = .ok (.aload_n 0, 1) := by decide +kernel
theorem dX4_freeMinutesLeft_19 : decode cX4_freeMinutesLeft 19 = .ok (.getfield 49, 3) := by decide +kernel
theorem dX4_freeMinutesLeft_22 : decode cX4_freeMinutesLeft 22 = .ok (.irem, 1) := by decide +kernel
theorem dX4_freeMinutesLeft_23 : decode cX4_freeMinutesLeft 23 = .ok (.isub, 1) := by decide +kernel
theorem dX4_freeMinutesLeft_24 : decode cX4_freeMinutesLeft 24 = .ok (.ireturn, 1) := by decide +kernel
theorem dX5_init_0 : decode cX5_init 0 = .ok (.aload_n 0, 1) := by decide +kernel
theorem dX5_init_1 : decode cX5_init 1 = .ok (.invokespecial 3, 3) := by decide +kernel
theorem dX5_init_4 : decode cX5_init 4 = .ok (.aload_n 0, 1) := by decide +kernel
theorem dX5_init_5 : decode cX5_init 5 = .ok (.new 9, 3) := by decide +kernel
theorem dX5_init_8 : decode cX5_init 8 = .ok (.dup, 1) := by decide +kernel
theorem dX5_init_9 : decode cX5_init 9 = .ok (.invokespecial 11, 3) := by decide +kernel
theorem dX5_init_12 : decode cX5_init 12 = .ok (.putfield 12, 3) := by decide +kernel
theorem dX5_init_15 : decode cX5_init 15 = .ok (.aload_n 0, 1) := by decide +kernel
theorem dX5_init_16 : decode cX5_init 16 = .ok (.bipush 10, 2) := by decide +kernel
theorem dX5_init_18 : decode cX5_init 18 = .ok (.anewarray 9, 3) := by decide +kernel
theorem dX5_init_21 : decode cX5_init 21 = .ok (.putfield 18, 3) := by decide +kernel
theorem dX5_init_24 : decode cX5_init 24 = .ok (.iconst 0, 1) := by decide +kernel
theorem dX5_init_25 : decode cX5_init 25 = .ok (.istore_n 1, 1) := by decide +kernel
theorem dX5_init_26 : decode cX5_init 26 = .ok (.iload_n 1, 1) := by decide +kernel
theorem dX5_init_27 : decode cX5_init 27 = .ok (.bipush 10, 2) := by decide +kernel
theorem dX5_init_29 : decode cX5_init 29 = .ok (.if_icmp .ge 22, 3) := by decide +kernel
theorem dX5_init_32 : decode cX5_init 32 = .ok (.aload_n 0, 1) := by decide +kernel
theorem dX5_init_33 : decode cX5_init 33 = .ok (.getfield 18, 3) := by decide +kernel
theorem dX5_init_36 : decode cX5_init 36 = .ok (.iload_n 1, 1) := by decide +kernel
theorem dX5_init_37 : decode cX5_init 37 = .ok (.new 9, 3) := by decide +kernel
theorem dX5_init_40 : decode cX5_init 40 = .ok (.dup, 1) := by decide +kernel
theorem dX5_init_41 : decode cX5_init 41 = .ok (.invokespecial 11, 3) := by decide +kernel
theorem dX5_init_44 : decode cX5_init 44 = .ok (.aastore, 1) := by decide +kernel
theorem dX5_init_45 : decode cX5_init 45 = .ok (.iinc 1 1, 3) := by decide +kernel
theorem dX5_init_48 : decode cX5_init 48 = .ok (.goto (-22), 3) := by decide +kernel
theorem dX5_init_51 : decode cX5_init 51 = .ok (.return_, 1) := by decide +kernel
theorem dX5_restart_0 : decode cX5_restart 0 = .ok (.aload_n 0, 1) := by decide +kernel
theorem dX5_restart_1 : decode cX5_restart 1 = .ok (.getfield 12, 3) := by decide +kernel
theorem dX5_restart_4 : decode cX5_restart 4 = .ok (.invokevirtual 22, 3) := by decide +kernel
theorem dX5_restart_7 : decode cX5_restart 7 = .ok (.aload_n 0, 1) := by decide +kernel
theorem dX5_restart_8 : decode cX5_restart 8 = .ok (.iconst 0, 1) := by decide +kernel
theorem dX5_restart_9 : decode cX5_restart 9 = .ok (.putfield 25, 3) := by decide +kernel
theorem dX5_restart_12 : decode cX5_restart 12 = .ok (.return_, 1) := by decide +kernel
theorem dX5_copy_0 : decode cX5_copy 0 = .ok (.aload_n 0, 1) := by decide +kernel
theorem dX5_copy_1 : decode cX5_copy 1 = .ok (.getfield 12, 3) := by decide +kernel
theorem dX5_copy_4 : decode cX5_copy 4 = .ok (.aload_n 1, 1) := by decide +kernel
theorem dX5_copy_5 : decode cX5_copy 5 = .ok (.getfield 12, 3) := by decide +kernel
theorem dX5_copy_8 : decode cX5_copy 8 = .ok (.invokevirtual 29, 3) := by decide +kernel
theorem dX5_copy_11 : decode cX5_copy 11 = .ok (.aload_n 0, 1) := by decide +kernel
theorem dX5_copy_12 : decode cX5_copy 12 = .ok (.aload_n 1, 1) := by decide +kernel
theorem dX5_copy_13 : decode cX5_copy 13 = .ok (.getfield 25, 3) := by decide +kernel
theorem dX5_copy_16 : decode cX5_copy 16 = .ok (.putfield 25, 3) := by decide +kernel
theorem dX5_copy_19 : decode cX5_copy 19 = .ok (.iconst 0, 1) := by decide +kernel
theorem dX5_copy_20 : decode cX5_copy 20 = .ok (.istore_n 2, 1) := by decide +kernel
theorem dX5_copy_21 : decode cX5_copy 21 = .ok (.iload_n 2, 1) := by decide +kernel
theorem dX5_copy_22 : decode cX5_copy 22 = .ok (.aload_n 0, 1) := by decide +kernel
theorem dX5_copy_23 : decode cX5_copy 23 = .ok (.getfield 25, 3) := by decide +kernel
theorem dX5_copy_26 : decode cX5_copy 26 = .ok (.if_icmp .ge 30, 3) := by decide +kernel
theorem dX5_copy_29 : decode cX5_copy 29 = .ok (.iload_n 2, 1) := by decide +kernel
theorem dX5_copy_30 : decode cX5_copy 30 = .ok (.bipush 10, 2) := by decide +kernel
theorem dX5_copy_32 : decode cX5_copy 32 = .ok (.if_icmp .ge 24, 3) := by decide +kernel
theorem dX5_copy_35 : decode cX5_copy 35 = .ok (.aload_n 0, 1) := by decide +kernel
theorem dX5_copy_36 : decode cX5_copy 36 = .ok (.getfield 18, 3) := by decide +kernel
theorem dX5_copy_39 : decode cX5_copy 39 = .ok (.iload_n 2, 1) := by decide +kernel
theorem dX5_copy_40 : decode cX5_copy 40 = .ok (.aaload, 1) := by decide +kernel
theorem dX5_copy_41 : decode cX5_copy 41 = .ok (.aload_n 1, 1) := by decide +kernel
theorem dX5_copy_42 : decode cX5_copy 42 = .ok (.getfield 18, 3) := by decide +kernel
theorem dX5_copy_45 : decode cX5_copy 45 = .ok (.iload_n 2, 1) := by decide +kernel
theorem dX5_copy_46 : decode cX5_copy 46 = .ok (.aaload, 1) := by decide +kernel
theorem dX5_copy_47 : decode cX5_copy 47 = .ok (.invokevirtual 29, 3) := by decide +kernel
theorem dX5_copy_50 : decode cX5_copy 50 = .ok (.iinc 2 1, 3) := by decide +kernel
theorem dX5_copy_53 : decode cX5_copy 53 = .ok (.goto (-32), 3) := by decide +kernel
theorem dX5_copy_56 : decode cX5_copy 56 = .ok (.return_, 1) := by decide +kernel
theorem dX5_remember_0 : decode cX5_remember 0 = .ok (.aload_n 0, 1) := by decide +kernel
theorem dX5_remember_1 : decode cX5_remember 1 = .ok (.getfield 25, 3) := by decide +kernel
theorem dX5_remember_4 : decode cX5_remember 4 = .ok (.bipush 10, 2) := by decide +kernel
theorem dX5_remember_6 : decode cX5_remember 6 = .ok (.if_icmp .lt 7, 3) := by decide +kernel
theorem dX5_remember_9 : decode cX5_remember 9 = .ok (.aload_n 0, 1) := by decide +kernel
theorem dX5_remember_10 : decode cX5_remember 10 = .ok (.invokevirtual 33, 3) := by decide +kernel
theorem dX5_remember_13 : decode cX5_remember 13 = .ok (.aload_n 0, 1) := by decide +kernel
theorem dX5_remember_14 : decode cX5_remember 14 = .ok (.getfield 18, 3) := by decide +kernel
theorem dX5_remember_17 : decode cX5_remember 17 = .ok (.aload_n 0, 1) := by decide +kernel
theorem dX5_remember_18 : decode cX5_remember 18 = .ok (.getfield 25, 3) := by decide +kernel
theorem dX5_remember_21 : decode cX5_remember 21 = .ok (.aaload, 1) := by decide +kernel
theorem dX5_remember_22 : decode cX5_remember 22 = .ok (.aload_n 0, 1) := by decide +kernel
theorem dX5_remember_23 : decode cX5_remember 23 = .ok (.getfield 12, 3) := by decide +kernel
theorem dX5_remember_26 : decode cX5_remember 26 = .ok (.invokevirtual 29, 3) := by decide +kernel
theorem dX5_remember_29 : decode cX5_remember 29 = .ok (.aload_n 0, 1) := by decide +kernel
theorem dX5_remember_30 : decode cX5_remember 30 = .ok (.dup, 1) := by decide +kernel
theorem dX5_remember_31 : decode cX5_remember 31 = .ok (.getfield 25, 3) := by decide +kernel
theorem dX5_remember_34 : decode cX5_remember 34 = .ok (.iconst 1, 1) := by decide +kernel
theorem dX5_remember_35 : decode cX5_remember 35 = .ok (.iadd, 1) := by decide +kernel
theorem dX5_remember_36 : decode cX5_remember 36 = .ok (.putfield 25, 3) := by decide +kernel
theorem dX5_remember_39 : decode cX5_remember 39 = .ok (.return_, 1) := by decide +kernel
theorem dX5_loseOldest_0 : decode cX5_loseOldest 0 = .ok (.aload_n 0, 1) := by decide +kernel
theorem dX5_loseOldest_1 : decode cX5_loseOldest 1 = .ok (.getfield 18, 3) := by decide +kernel
theorem dX5_loseOldest_4 : decode cX5_loseOldest 4 = .ok (.iconst 0, 1) := by decide +kernel
theorem dX5_loseOldest_5 : decode cX5_loseOldest 5 = .ok (.aaload, 1) := by decide +kernel
theorem dX5_loseOldest_6 : decode cX5_loseOldest 6 = .ok (.astore_n 1, 1) := by decide +kernel
theorem dX5_loseOldest_7 : decode cX5_loseOldest 7 = .ok (.iconst 1, 1) := by decide +kernel
theorem dX5_loseOldest_8 : decode cX5_loseOldest 8 = .ok (.istore_n 2, 1) := by decide +kernel
theorem dX5_loseOldest_9 : decode cX5_loseOldest 9 = .ok (.iload_n 2, 1) := by decide +kernel
theorem dX5_loseOldest_10 : decode cX5_loseOldest 10 = .ok (.bipush 10, 2) := by decide +kernel
theorem dX5_loseOldest_12 : decode cX5_loseOldest 12 = .ok (.if_icmp .ge 23, 3) := by decide +kernel
theorem dX5_loseOldest_15 : decode cX5_loseOldest 15 = .ok (.aload_n 0, 1) := by decide +kernel
theorem dX5_loseOldest_16 : decode cX5_loseOldest 16 = .ok (.getfield 18, 3) := by decide +kernel
theorem dX5_loseOldest_19 : decode cX5_loseOldest 19 = .ok (.iload_n 2, 1) := by decide +kernel
theorem dX5_loseOldest_20 : decode cX5_loseOldest 20 = .ok (.iconst 1, 1) := by decide +kernel
theorem dX5_loseOldest_21 : decode cX5_loseOldest 21 = .ok (.isub, 1) := by decide +kernel
theorem dX5_loseOldest_22 : decode cX5_loseOldest 22 = .ok (.aload_n 0, 1) := by decide +kernel
theorem dX5_loseOldest_23 : decode cX5_loseOldest 23 = .ok (.getfield 18, 3) := by decide +kernel
theorem dX5_loseOldest_26 : decode cX5_loseOldest 26 = .ok (.iload_n 2, 1) := by decide +kernel
theorem dX5_loseOldest_27 : decode cX5_loseOldest 27 = .ok (.aaload, 1) := by decide +kernel
theorem dX5_loseOldest_28 : decode cX5_loseOldest 28 = .ok (.aastore, 1) := by decide +kernel
theorem dX5_loseOldest_29 : decode cX5_loseOldest 29 = .ok (.iinc 2 1, 3) := by decide +kernel
theorem dX5_loseOldest_32 : decode cX5_loseOldest 32 = .ok (.goto (-23), 3) := by decide +kernel
theorem dX5_loseOldest_35 : decode cX5_loseOldest 35 = .ok (.aload_n 0, 1) := by decide +kernel
theorem dX5_loseOldest_36 : decode cX5_loseOldest 36 = .ok (.getfield 18, 3) := by decide +kernel
theorem dX5_loseOldest_39 : decode cX5_loseOldest 39 = .ok (.bipush 9, 2) := by decide +kernel
theorem dX5_loseOldest_41 : decode cX5_loseOldest 41 = .ok (.aload_n 1, 1) := by decide +kernel
theorem dX5_loseOldest_42 : decode cX5_loseOldest 42 = .ok (.aastore, 1) := by decide +kernel
theorem dX5_loseOldest_43 : decode cX5_loseOldest 43 = .ok (.aload_n 0, 1) := by decide +kernel
theorem dX5_loseOldest_44 : decode cX5_loseOldest 44 = .ok (.bipush 9, 2) := by decide +kernel
theorem dX5_loseOldest_46 : decode cX5_loseOldest 46 = .ok (.putfield 25, 3) := by decide +kernel
theorem dX5_loseOldest_49 : decode cX5_loseOldest 49 = .ok (.return_, 1) := by decide +kernel
theorem dX5_takeBack_0 : decode cX5_takeBack 0 = .ok (.aload_n 0, 1) := by decide +kernel
theorem dX5_takeBack_1 : decode cX5_takeBack 1 = .ok (.getfield 25, 3) := by decide +kernel
theorem dX5_takeBack_4 : decode cX5_takeBack 4 = .ok (.ifCond .le 29, 3) := by decide +kernel
theorem dX5_takeBack_7 : decode cX5_takeBack 7 = .ok (.aload_n 0, 1) := by decide +kernel
theorem dX5_takeBack_8 : decode cX5_takeBack 8 = .ok (.dup, 1) := by decide +kernel
theorem dX5_takeBack_9 : decode cX5_takeBack 9 = .ok (.getfield 25, 3) := by decide +kernel
theorem dX5_takeBack_12 : decode cX5_takeBack 12 = .ok (.iconst 1, 1) := by decide +kernel
theorem dX5_takeBack_13 : decode cX5_takeBack 13 = .ok (.isub, 1) := by decide +kernel
theorem dX5_takeBack_14 : decode cX5_takeBack 14 = .ok (.putfield 25, 3) := by decide +kernel
theorem dX5_takeBack_17 : decode cX5_takeBack 17 = .ok (.aload_n 0, 1) := by decide +kernel
theorem dX5_takeBack_18 : decode cX5_takeBack 18 = .ok (.getfield 12, 3) := by decide +kernel
theorem dX5_takeBack_21 : decode cX5_takeBack 21 = .ok (.aload_n 0, 1) := by decide +kernel
theorem dX5_takeBack_22 : decode cX5_takeBack 22 = .ok (.getfield 18, 3) := by decide +kernel
theorem dX5_takeBack_25 : decode cX5_takeBack 25 = .ok (.aload_n 0, 1) := by decide +kernel
theorem dX5_takeBack_26 : decode cX5_takeBack 26 = .ok (.getfield 25, 3) := by decide +kernel
theorem dX5_takeBack_29 : decode cX5_takeBack 29 = .ok (.aaload, 1) := by decide +kernel
theorem dX5_takeBack_30 : decode cX5_takeBack 30 = .ok (.invokevirtual 29, 3) := by decide +kernel
theorem dX5_takeBack_33 : decode cX5_takeBack 33 = .ok (.return_, 1) := by decide +kernel
end
section
theorem dX6_init_0 : decode cX6_init 0 = .ok (.aload_n 0, 1) := by decide +kernel
theorem dX6_init_1 : decode cX6_init 1 = .ok (.invokespecial 1, 3) := by decide +kernel
theorem dX6_init_4 : decode cX6_init 4 = .ok (.aload_n 0, 1) := by decide +kernel
theorem dX6_init_5 : decode cX6_init 5 = .ok (.new 7, 3) := by decide +kernel
theorem dX6_init_8 : decode cX6_init 8 = .ok (.dup, 1) := by decide +kernel
theorem dX6_init_9 : decode cX6_init 9 = .ok (.invokespecial 9, 3) := by decide +kernel
theorem dX6_init_12 : decode cX6_init 12 = .ok (.putfield 10, 3) := by decide +kernel
theorem dX6_init_15 : decode cX6_init 15 = .ok (.aload_n 0, 1) := by decide +kernel
theorem dX6_init_16 : decode cX6_init 16 = .ok (.new 16, 3) := by decide +kernel
theorem dX6_init_19 : decode cX6_init 19 = .ok (.dup, 1) := by decide +kernel
theorem dX6_init_20 : decode cX6_init 20 = .ok (.invokespecial 18, 3) := by decide +kernel
theorem dX6_init_23 : decode cX6_init 23 = .ok (.putfield 19, 3) := by decide +kernel
theorem dX6_init_26 : decode cX6_init 26 = .ok (.aload_n 0, 1) := by decide +kernel
theorem dX6_init_27 : decode cX6_init 27 = .ok (.new 16, 3) := by decide +kernel
theorem dX6_init_30 : decode cX6_init 30 = .ok (.dup, 1) := by decide +kernel
theorem dX6_init_31 : decode cX6_init 31 = .ok (.invokespecial 18, 3) := by decide +kernel
theorem dX6_init_34 : decode cX6_init 34 = .ok (.putfield 23, 3) := by decide +kernel
theorem dX6_init_37 : decode cX6_init 37 = .ok (.aload_n 0, 1) := by decide +kernel
theorem dX6_init_38 : decode cX6_init 38 = .ok (.new 26, 3) := by decide +kernel
theorem dX6_init_41 : decode cX6_init 41 = .ok (.dup, 1) := by decide +kernel
theorem dX6_init_42 : decode cX6_init 42 = .ok (.invokespecial 28, 3) := by decide +kernel
theorem dX6_init_45 : decode cX6_init 45 = .ok (.putfield 29, 3) := by decide +kernel
theorem dX6_init_48 : decode cX6_init 48 = .ok (.aload_n 0, 1) := by decide +kernel
theorem dX6_init_49 : decode cX6_init 49 = .ok (.iconst 2, 1) := by decide +kernel
theorem dX6_init_50 : decode cX6_init 50 = .ok (.anewarray 26, 3) := by decide +kernel
theorem dX6_init_53 : decode cX6_init 53 = .ok (.putfield 33, 3) := by decide +kernel
theorem dX6_init_56 : decode cX6_init 56 = .ok (.aload_n 0, 1) := by decide +kernel
theorem dX6_init_57 : decode cX6_init 57 = .ok (.iconst 2, 1) := by decide +kernel
theorem dX6_init_58 : decode cX6_init 58 = .ok (.newarray .boolean, 2) := by decide +kernel
theorem dX6_init_60 : decode cX6_init 60 = .ok (.putfield 37, 3) := by decide +kernel
theorem dX6_init_63 : decode cX6_init 63 = .ok (.aload_n 0, 1) := by decide +kernel
theorem dX6_init_64 : decode cX6_init 64 = .ok (.new 41, 3) := by decide +kernel
theorem dX6_init_67 : decode cX6_init 67 = .ok (.dup, 1) := by decide +kernel
theorem dX6_init_68 : decode cX6_init 68 = .ok (.invokespecial 43, 3) := by decide +kernel
theorem dX6_init_71 : decode cX6_init 71 = .ok (.putfield 44, 3) := by decide +kernel
theorem dX6_init_74 : decode cX6_init 74 = .ok (.aload_n 0, 1) := by decide +kernel
theorem dX6_init_75 : decode cX6_init 75 = .ok (.new 48, 3) := by decide +kernel
theorem dX6_init_78 : decode cX6_init 78 = .ok (.dup, 1) := by decide +kernel
theorem dX6_init_79 : decode cX6_init 79 = .ok (.iconst 0, 1) := by decide +kernel
theorem dX6_init_80 : decode cX6_init 80 = .ok (.invokespecial 50, 3) := by decide +kernel
theorem dX6_init_83 : decode cX6_init 83 = .ok (.putfield 53, 3) := by decide +kernel
theorem dX6_init_86 : decode cX6_init 86 = .ok (.aload_n 0, 1) := by decide +kernel
theorem dX6_init_87 : decode cX6_init 87 = .ok (.new 48, 3) := by decide +kernel
theorem dX6_init_90 : decode cX6_init 90 = .ok (.dup, 1) := by decide +kernel
theorem dX6_init_91 : decode cX6_init 91 = .ok (.iconst 1, 1) := by decide +kernel
theorem dX6_init_92 : decode cX6_init 92 = .ok (.invokespecial 50, 3) := by decide +kernel
theorem dX6_init_95 : decode cX6_init 95 = .ok (.putfield 57, 3) := by decide +kernel
theorem dX6_init_98 : decode cX6_init 98 = .ok (.aload_n 0, 1) := by decide +kernel
theorem dX6_init_99 : decode cX6_init 99 = .ok (.new 60, 3) := by decide +kernel
theorem dX6_init_102 : decode cX6_init 102 = .ok (.dup, 1) := by decide +kernel
theorem dX6_init_103 : decode cX6_init 103 = .ok (.invokespecial 62, 3) := by decide +kernel
theorem dX6_init_106 : decode cX6_init 106 = .ok (.putfield 63, 3) := by decide +kernel
theorem dX6_init_109 : decode cX6_init 109 = .ok (.iconst 0, 1) := by decide +kernel
theorem dX6_init_110 : decode cX6_init 110 = .ok (.istore_n 1, 1) := by decide +kernel
theorem dX6_init_111 : decode cX6_init 111 = .ok (.iload_n 1, 1) := by decide +kernel
theorem dX6_init_112 : decode cX6_init 112 = .ok (.iconst 2, 1) := by decide +kernel
theorem dX6_init_113 : decode cX6_init 113 = .ok (.if_icmp .ge 22, 3) := by decide +kernel
theorem dX6_init_116 : decode cX6_init 116 = .ok (.aload_n 0, 1) := by decide +kernel
theorem dX6_init_117 : decode cX6_init 117 = .ok (.getfield 33, 3) := by decide +kernel
theorem dX6_init_120 : decode cX6_init 120 = .ok (.iload_n 1, 1) := by decide +kernel
theorem dX6_init_121 : decode cX6_init 121 = .ok (.new 26, 3) := by decide +kernel
theorem dX6_init_124 : decode cX6_init 124 = .ok (.dup, 1) := by decide +kernel
theorem dX6_init_125 : decode cX6_init 125 = .ok (.invokespecial 28, 3) := by decide +kernel
theorem dX6_init_128 : decode cX6_init 128 = .ok (.aastore, 1) := by decide +kernel
theorem dX6_init_129 : decode cX6_init 129 = .ok (.iinc 1 1, 3) := by decide +kernel
theorem dX6_init_132 : decode cX6_init 132 = .ok (.goto (-21), 3) := by decide +kernel
theorem dX6_init_135 : decode cX6_init 135 = .ok (.return_, 1) := by decide +kernel
theorem dX6_type_0 : decode cX6_type 0 = .ok (.iload_n 1, 1) := by decide +kernel
theorem dX6_type_1 : decode cX6_type 1 = .ok (.ifCond .lt 10, 3) := by decide +kernel
theorem dX6_type_4 : decode cX6_type 4 = .ok (.iload_n 1, 1) := by decide +kernel
theorem dX6_type_5 : decode cX6_type 5 = .ok (.sipush 255, 3) := by decide +kernel
theorem dX6_type_8 : decode cX6_type 8 = .ok (.if_icmp .le 5, 3) := by decide +kernel
theorem dX6_type_11 : decode cX6_type 11 = .ok (.iconst (-1), 1) := by decide +kernel
theorem dX6_type_12 : decode cX6_type 12 = .ok (.ireturn, 1) := by decide +kernel
theorem dX6_type_13 : decode cX6_type 13 = .ok (.aload_n 0, 1) := by decide +kernel
theorem dX6_type_14 : decode cX6_type 14 = .ok (.getfield 10, 3) := by decide +kernel
theorem dX6_type_17 : decode cX6_type 17 = .ok (.getfield 67, 3) := by decide +kernel
theorem dX6_type_20 : decode cX6_type 20 = .ok (.sipush 200, 3) := by decide +kernel
theorem dX6_type_23 : decode cX6_type 23 = .ok (.if_icmp .lt 6, 3) := by decide +kernel
theorem dX6_type_26 : decode cX6_type 26 = .ok (.bipush (-3), 2) := by decide +kernel
theorem dX6_type_28 : decode cX6_type 28 = .ok (.ireturn, 1) := by decide +kernel
theorem dX6_type_29 : decode cX6_type 29 = .ok (.aload_n 0, 1) := by decide +kernel
theorem dX6_type_30 : decode cX6_type 30 = .ok (.getfield 10, 3) := by decide +kernel
theorem dX6_type_33 : decode cX6_type 33 = .ok (.getfield 71, 3) := by decide +kernel
theorem dX6_type_36 : decode cX6_type 36 = .ok (.aload_n 0, 1) := by decide +kernel
theorem dX6_type_37 : decode cX6_type 37 = .ok (.getfield 10, 3) := by decide +kernel
theorem dX6_type_40 : decode cX6_type 40 = .ok (.getfield 67, 3) := by decide +kernel
theorem dX6_type_43 : decode cX6_type 43 = .ok (.iload_n 1, 1) := by decide +kernel
theorem dX6_type_44 : decode cX6_type 44 = .ok (.iastore, 1) := by decide +kernel
theorem dX6_type_45 : decode cX6_type 45 = .ok (.aload_n 0, 1) := by decide +kernel
theorem dX6_type_46 : decode cX6_type 46 = .ok (.getfield 10, 3) := by decide +kernel
theorem dX6_type_49 : decode cX6_type 49 = .ok (.dup, 1) := by decide +kernel
theorem dX6_type_50 : decode cX6_type 50 = .ok (.getfield 67, 3) := by decide +kernel
theorem dX6_type_53 : decode cX6_type 53 = .ok (.iconst 1, 1) := by decide +kernel
theorem dX6_type_54 : decode cX6_type 54 = .ok (.iadd, 1) := by decide +kernel
theorem dX6_type_55 : decode cX6_type 55 = .ok (.putfield 67, 3) := by decide +kernel
theorem dX6_type_58 : decode cX6_type 58 = .ok (.aload_n 0, 1) := by decide +kernel
theorem dX6_type_59 : decode cX6_type 59 = .ok (.getfield 10, 3) := by decide +kernel
theorem dX6_type_62 : decode cX6_type 62 = .ok (.getfield 67, 3) := by decide +kernel
theorem dX6_type_65 : decode cX6_type 65 = .ok (.ireturn, 1) := by decide +kernel
theorem dX6_clear_0 : decode cX6_clear 0 = .ok (.aload_n 0, 1) := by decide +kernel
theorem dX6_clear_1 : decode cX6_clear 1 = .ok (.getfield 10, 3) := by decide +kernel
theorem dX6_clear_4 : decode cX6_clear 4 = .ok (.getfield 67, 3) := by decide +kernel
theorem dX6_clear_7 : decode cX6_clear 7 = .ok (.istore_n 1, 1) := by decide +kernel
theorem dX6_clear_8 : decode cX6_clear 8 = .ok (.aload_n 0, 1) := by decide +kernel
theorem dX6_clear_9 : decode cX6_clear 9 = .ok (.getfield 10, 3) := by decide +kernel
theorem dX6_clear_12 : decode cX6_clear 12 = .ok (.iconst 0, 1) := by decide +kernel
theorem dX6_clear_13 : decode cX6_clear 13 = .ok (.putfield 67, 3) := by decide +kernel
theorem dX6_clear_16 : decode cX6_clear 16 = .ok (.iload_n 1, 1) := by decide +kernel
theorem dX6_clear_17 : decode cX6_clear 17 = .ok (.ireturn, 1) := by decide +kernel
theorem dX6_tunnel_0 : decode cX6_tunnel 0 = .ok (.aload_n 0, 1) := by decide +kernel
theorem dX6_tunnel_1 : decode cX6_tunnel 1 = .ok (.getfield 10, 3) := by decide +kernel
theorem dX6_tunnel_4 : decode cX6_tunnel 4 = .ok (.aload_n 0, 1) := by decide +kernel
theorem dX6_tunnel_5 : decode cX6_tunnel 5 = .ok (.getfield 23, 3) := by decide +kernel
theorem dX6_tunnel_8 : decode cX6_tunnel 8 = .ok (.invokevirtual 75, 3) := by decide +kernel
theorem dX6_tunnel_11 : decode cX6_tunnel 11 = .ok (.istore_n 1, 1) := by decide +kernel
theorem dX6_tunnel_12 : decode cX6_tunnel 12 = .ok (.iload_n 1, 1) := by decide +kernel
theorem dX6_tunnel_13 : decode cX6_tunnel 13 = .ok (.ifCond .ge 5, 3) := by decide +kernel
theorem dX6_tunnel_16 : decode cX6_tunnel 16 = .ok (.iload_n 1, 1) := by decide +kernel
theorem dX6_tunnel_17 : decode cX6_tunnel 17 = .ok (.ireturn, 1) := by decide +kernel
theorem dX6_tunnel_18 : decode cX6_tunnel 18 = .ok (.aload_n 0, 1) := by decide +kernel
theorem dX6_tunnel_19 : decode cX6_tunnel 19 = .ok (.getfield 19, 3) := by decide +kernel
theorem dX6_tunnel_22 : decode cX6_tunnel 22 = .ok (.astore_n 2, 1) := by decide +kernel
theorem dX6_tunnel_23 : decode cX6_tunnel 23 = .ok (.aload_n 0, 1) := by decide +kernel
theorem dX6_tunnel_24 : decode cX6_tunnel 24 = .ok (.aload_n 0, 1) := by decide +kernel
theorem dX6_tunnel_25 : decode cX6_tunnel 25 = .ok (.getfield 23, 3) := by decide +kernel
theorem dX6_tunnel_28 : decode cX6_tunnel 28 = .ok (.putfield 19, 3) := by decide +kernel
theorem dX6_tunnel_31 : decode cX6_tunnel 31 = .ok (.aload_n 0, 1) := by decide +kernel
theorem dX6_tunnel_32 : decode cX6_tunnel 32 = .ok (.aload_n 2, 1) := by decide +kernel
theorem dX6_tunnel_33 : decode cX6_tunnel 33 = .ok (.putfield 23, 3) := by decide +kernel
theorem dX6_tunnel_36 : decode cX6_tunnel 36 = .ok (.aload_n 0, 1) := by decide +kernel
theorem dX6_tunnel_37 : decode cX6_tunnel 37 = .ok (.getfield 10, 3) := by decide +kernel
theorem dX6_tunnel_40 : decode cX6_tunnel 40 = .ok (.iconst 0, 1) := by decide +kernel
theorem dX6_tunnel_41 : decode cX6_tunnel 41 = .ok (.putfield 67, 3) := by decide +kernel
theorem dX6_tunnel_44 : decode cX6_tunnel 44 = .ok (.aload_n 0, 1) := by decide +kernel
theorem dX6_tunnel_45 : decode cX6_tunnel 45 = .ok (.getfield 29, 3) := by decide +kernel
theorem dX6_tunnel_48 : decode cX6_tunnel 48 = .ok (.invokevirtual 79, 3) := by decide +kernel
theorem dX6_tunnel_51 : decode cX6_tunnel 51 = .ok (.iconst 0, 1) := by decide +kernel
theorem dX6_tunnel_52 : decode cX6_tunnel 52 = .ok (.istore_n 3, 1) := by decide +kernel
theorem dX6_tunnel_53 : decode cX6_tunnel 53 = .ok (.iload_n 3, 1) := by decide +kernel
theorem dX6_tunnel_54 : decode cX6_tunnel 54 = .ok (.iconst 2, 1) := by decide +kernel
theorem dX6_tunnel_55 : decode cX6_tunnel 55 = .ok (.if_icmp .ge 16, 3) := by decide +kernel
theorem dX6_tunnel_58 : decode cX6_tunnel 58 = .ok (.aload_n 0, 1) := by decide +kernel
theorem dX6_tunnel_59 : decode cX6_tunnel 59 = .ok (.getfield 37, 3) := by decide +kernel
theorem dX6_tunnel_62 : decode cX6_tunnel 62 = .ok (.iload_n 3, 1) := by decide +kernel
theorem dX6_tunnel_63 : decode cX6_tunnel 63 = .ok (.iconst 0, 1) := by decide +kernel
theorem dX6_tunnel_64 : decode cX6_tunnel 64 = .ok (.bastore, 1) := by decide +kernel
theorem dX6_tunnel_65 : decode cX6_tunnel 65 = .ok (.iinc 3 1, 3) := by decide +kernel
theorem dX6_tunnel_68 : decode cX6_tunnel 68 = .ok (.goto (-15), 3) := by decide +kernel
theorem dX6_tunnel_71 : decode cX6_tunnel 71 = .ok (.aload_n 0, 1) := by decide +kernel
theorem dX6_tunnel_72 : decode cX6_tunnel 72 = .ok (.getfield 44, 3) := by decide +kernel
theorem dX6_tunnel_75 : decode cX6_tunnel 75 = .ok (.iconst 0, 1) := by decide +kernel
theorem dX6_tunnel_76 : decode cX6_tunnel 76 = .ok (.putfield 82, 3) := by decide +kernel
theorem dX6_tunnel_79 : decode cX6_tunnel 79 = .ok (.aload_n 0, 1) := by decide +kernel
theorem dX6_tunnel_80 : decode cX6_tunnel 80 = .ok (.getfield 44, 3) := by decide +kernel
theorem dX6_tunnel_83 : decode cX6_tunnel 83 = .ok (.iconst 0, 1) := by decide +kernel
theorem dX6_tunnel_84 : decode cX6_tunnel 84 = .ok (.putfield 83, 3) := by decide +kernel
theorem dX6_tunnel_87 : decode cX6_tunnel 87 = .ok (.aload_n 0, 1) := by decide +kernel
theorem dX6_tunnel_88 : decode cX6_tunnel 88 = .ok (.invokevirtual 87, 3) := by decide +kernel
theorem dX6_tunnel_91 : decode cX6_tunnel 91 = .ok (.iload_n 1, 1) := by decide +kernel
theorem dX6_tunnel_92 : decode cX6_tunnel 92 = .ok (.ireturn, 1) := by decide +kernel
theorem dX6_walker_0 : decode cX6_walker 0 = .ok (.iload_n 1, 1) := by decide +kernel
theorem dX6_walker_1 : decode cX6_walker 1 = .ok (.ifCond .lt 14, 3) := by decide +kernel
theorem dX6_walker_4 : decode cX6_walker 4 = .ok (.iload_n 1, 1) := by decide +kernel
theorem dX6_walker_5 : decode cX6_walker 5 = .ok (.aload_n 0, 1) := by decide +kernel
theorem dX6_walker_6 : decode cX6_walker 6 = .ok (.getfield 19, 3) := by decide +kernel
theorem dX6_walker_9 : decode cX6_walker 9 = .ok (.getfield 90, 3) := by decide +kernel
theorem dX6_walker_12 : decode cX6_walker 12 = .ok (.if_icmp .lt 5, 3) := by decide +kernel
theorem dX6_walker_15 : decode cX6_walker 15 = .ok (.iconst (-1), 1) := by decide +kernel
theorem dX6_walker_16 : decode cX6_walker 16 = .ok (.ireturn, 1) := by decide +kernel
theorem dX6_walker_17 : decode cX6_walker 17 = .ok (.iload_n 2, 1) := by decide +kernel
theorem dX6_walker_18 : decode cX6_walker 18 = .ok (.tableswitch 87 0 3 #[30, 40, 50, 63], 30) := by decide +kernel
theorem dX6_walker_48 : decode cX6_walker 48 = .ok (.aload_n 0, 1) := by decide +kernel
theorem dX6_walker_49 : decode cX6_walker 49 = .ok (.getfield 19, 3) := by decide +kernel
theorem dX6_walker_52 : decode cX6_walker 52 = .ok (.getfield 93, 3) := by decide +kernel
theorem dX6_walker_55 : decode cX6_walker 55 = .ok (.iload_n 1, 1) := by decide +kernel
theorem dX6_walker_56 : decode cX6_walker 56 = .ok (.iaload, 1) := by decide +kernel
theorem dX6_walker_57 : decode cX6_walker 57 = .ok (.ireturn, 1) := by decide +kernel
theorem dX6_walker_58 : decode cX6_walker 58 = .ok (.aload_n 0, 1) := by decide +kernel
theorem dX6_walker_59 : decode cX6_walker 59 = .ok (.getfield 19, 3) := by decide +kernel
theorem dX6_walker_62 : decode cX6_walker 62 = .ok (.getfield 96, 3) := by decide +kernel
theorem dX6_walker_65 : decode cX6_walker 65 = .ok (.iload_n 1, 1) := by decide +kernel
theorem dX6_walker_66 : decode cX6_walker 66 = .ok (.iaload, 1) := by decide +kernel
theorem dX6_walker_67 : decode cX6_walker 67 = .ok (.ireturn, 1) := by decide +kernel
theorem dX6_walker_68 : decode cX6_walker 68 = .ok (.aload_n 0, 1) := by decide +kernel
theorem dX6_walker_69 : decode cX6_walker 69 = .ok (.getfield 29, 3) := by decide +kernel
theorem dX6_walker_72 : decode cX6_walker 72 = .ok (.getfield 99, 3) := by decide +kernel
theorem dX6_walker_75 : decode cX6_walker 75 = .ok (.getfield 102, 3) := by decide +kernel
theorem dX6_walker_78 : decode cX6_walker 78 = .ok (.iload_n 1, 1) := by decide +kernel
theorem dX6_walker_79 : decode cX6_walker 79 = .ok (.iaload, 1) := by decide +kernel
theorem dX6_walker_80 : decode cX6_walker 80 = .ok (.ireturn, 1) := by decide +kernel
theorem dX6_walker_81 : decode cX6_walker 81 = .ok (.aload_n 0, 1) := by decide +kernel
theorem dX6_walker_82 : decode cX6_walker 82 = .ok (.getfield 29, 3) := by decide +kernel
theorem dX6_walker_85 : decode cX6_walker 85 = .ok (.getfield 99, 3) := by decide +kernel
theorem dX6_walker_88 : decode cX6_walker 88 = .ok (.aload_n 0, 1) := by decide +kernel
theorem dX6_walker_89 : decode cX6_walker 89 = .ok (.getfield 19, 3) := by decide +kernel
theorem dX6_walker_92 : decode cX6_walker 92 = .ok (.iload_n 1, 1) := by decide +kernel
theorem dX6_walker_93 : decode cX6_walker 93 = .ok (.invokevirtual 105, 3) := by decide +kernel
theorem dX6_walker_96 : decode cX6_walker 96 = .ok (.ifCond .eq 7, 3) := by decide +kernel
theorem dX6_walker_99 : decode cX6_walker 99 = .ok (.iconst 1, 1) := by decide +kernel
theorem dX6_walker_100 : decode cX6_walker 100 = .ok (.goto 4, 3) := by decide +kernel
theorem dX6_walker_103 : decode cX6_walker 103 = .ok (.iconst 0, 1) := by decide +kernel
theorem dX6_walker_104 : decode cX6_walker 104 = .ok (.ireturn, 1) := by decide +kernel
theorem dX6_walker_105 : decode cX6_walker 105 = .ok (.iconst (-1), 1) := by decide +kernel
theorem dX6_walker_106 : decode cX6_walker 106 = .ok (.ireturn, 1) := by decide +kernel
theorem dX6_stretch_0 : decode cX6_stretch 0 = .ok (.aload_n 0, 1) := by decide +kernel
theorem dX6_stretch_1 : decode cX6_stretch 1 = .ok (.getfield 19, 3) := by decide +kernel
theorem dX6_stretch_4 : decode cX6_stretch 4 = .ok (.iload_n 1, 1) := by decide +kernel
theorem dX6_stretch_5 : decode cX6_stretch 5 = .ok (.invokevirtual 109, 3) := by decide +kernel
theorem dX6_stretch_8 : decode cX6_stretch 8 = .ok (.ifCond .ne 5, 3) := by decide +kernel
theorem dX6_stretch_11 : decode cX6_stretch 11 = .ok (.iconst (-1), 1) := by decide +kernel
theorem dX6_stretch_12 : decode cX6_stretch 12 = .ok (.ireturn, 1) := by decide +kernel
theorem dX6_stretch_13 : decode cX6_stretch 13 = .ok (.iload_n 2, 1) := by decide +kernel
theorem dX6_stretch_14 : decode cX6_stretch 14 = .ok (.tableswitch 70 0 3 #[30, 40, 50, 60], 30) := by decide +kernel
theorem dX6_stretch_44 : decode cX6_stretch 44 = .ok (.aload_n 0, 1) := by decide +kernel
theorem dX6_stretch_45 : decode cX6_stretch 45 = .ok (.getfield 19, 3) := by decide +kernel
theorem dX6_stretch_48 : decode cX6_stretch 48 = .ok (.getfield 113, 3) := by decide +kernel
theorem dX6_stretch_51 : decode cX6_stretch 51 = .ok (.iload_n 1, 1) := by decide +kernel
theorem dX6_stretch_52 : decode cX6_stretch 52 = .ok (.iaload, 1) := by decide +kernel
theorem dX6_stretch_53 : decode cX6_stretch 53 = .ok (.ireturn, 1) := by decide +kernel
theorem dX6_stretch_54 : decode cX6_stretch 54 = .ok (.aload_n 0, 1) := by decide +kernel
theorem dX6_stretch_55 : decode cX6_stretch 55 = .ok (.getfield 19, 3) := by decide +kernel
theorem dX6_stretch_58 : decode cX6_stretch 58 = .ok (.getfield 116, 3) := by decide +kernel
theorem dX6_stretch_61 : decode cX6_stretch 61 = .ok (.iload_n 1, 1) := by decide +kernel
theorem dX6_stretch_62 : decode cX6_stretch 62 = .ok (.iaload, 1) := by decide +kernel
theorem dX6_stretch_63 : decode cX6_stretch 63 = .ok (.ireturn, 1) := by decide +kernel
theorem dX6_stretch_64 : decode cX6_stretch 64 = .ok (.aload_n 0, 1) := by decide +kernel
theorem dX6_stretch_65 : decode cX6_stretch 65 = .ok (.getfield 19, 3) := by decide +kernel
theorem dX6_stretch_68 : decode cX6_stretch 68 = .ok (.getfield 119, 3) := by decide +kernel
theorem dX6_stretch_71 : decode cX6_stretch 71 = .ok (.iload_n 1, 1) := by decide +kernel
theorem dX6_stretch_72 : decode cX6_stretch 72 = .ok (.iaload, 1) := by decide +kernel
theorem dX6_stretch_73 : decode cX6_stretch 73 = .ok (.ireturn, 1) := by decide +kernel
theorem dX6_stretch_74 : decode cX6_stretch 74 = .ok (.aload_n 0, 1) := by decide +kernel
theorem dX6_stretch_75 : decode cX6_stretch 75 = .ok (.getfield 19, 3) := by decide +kernel
theorem dX6_stretch_78 : decode cX6_stretch 78 = .ok (.getfield 122, 3) := by decide +kernel
theorem dX6_stretch_81 : decode cX6_stretch 81 = .ok (.iload_n 1, 1) := by decide +kernel
theorem dX6_stretch_82 : decode cX6_stretch 82 = .ok (.iaload, 1) := by decide +kernel
theorem dX6_stretch_83 : decode cX6_stretch 83 = .ok (.ireturn, 1) := by decide +kernel
theorem dX6_stretch_84 : decode cX6_stretch 84 = .ok (.iconst (-1), 1) := by decide +kernel
theorem dX6_stretch_85 : decode cX6_stretch 85 = .ok (.ireturn, 1) := by decide +kernel
theorem dX6_takes_0 : decode cX6_takes 0 = .ok (.aload_n 0, 1) := by decide +kernel
theorem dX6_takes_1 : decode cX6_takes 1 = .ok (.getfield 19, 3) := by decide +kernel
theorem dX6_takes_4 : decode cX6_takes 4 = .ok (.iload_n 1, 1) := by decide +kernel
theorem dX6_takes_5 : decode cX6_takes 5 = .ok (.invokevirtual 109, 3) := by decide +kernel
theorem dX6_takes_8 : decode cX6_takes 8 = .ok (.ifCond .eq 14, 3) := by decide +kernel
theorem dX6_takes_11 : decode cX6_takes 11 = .ok (.aload_n 0, 1) := by decide +kernel
theorem dX6_takes_12 : decode cX6_takes 12 = .ok (.getfield 19, 3) := by decide +kernel
theorem dX6_takes_15 : decode cX6_takes 15 = .ok (.iload_n 2, 1) := by decide +kernel
theorem dX6_takes_16 : decode cX6_takes 16 = .ok (.invokevirtual 125, 3) := by decide +kernel
theorem dX6_takes_19 : decode cX6_takes 19 = .ok (.ifCond .ne 5, 3) := by decide +kernel
theorem dX6_takes_22 : decode cX6_takes 22 = .ok (.iconst (-1), 1) := by decide +kernel
theorem dX6_takes_23 : decode cX6_takes 23 = .ok (.ireturn, 1) := by decide +kernel
theorem dX6_takes_24 : decode cX6_takes 24 = .ok (.aload_n 0, 1) := by decide +kernel
theorem dX6_takes_25 : decode cX6_takes 25 = .ok (.getfield 29, 3) := by decide +kernel
theorem dX6_takes_28 : decode cX6_takes 28 = .ok (.getfield 99, 3) := by decide +kernel
theorem dX6_takes_31 : decode cX6_takes 31 = .ok (.aload_n 0, 1) := by decide +kernel
theorem dX6_takes_32 : decode cX6_takes 32 = .ok (.getfield 19, 3) := by decide +kernel
theorem dX6_takes_35 : decode cX6_takes 35 = .ok (.iload_n 1, 1) := by decide +kernel
theorem dX6_takes_36 : decode cX6_takes 36 = .ok (.iload_n 2, 1) := by decide +kernel
theorem dX6_takes_37 : decode cX6_takes 37 = .ok (.invokevirtual 128, 3) := by decide +kernel
theorem dX6_takes_40 : decode cX6_takes 40 = .ok (.ireturn, 1) := by decide +kernel
theorem dX6_walks_0 : decode cX6_walks 0 = .ok (.aload_n 0, 1) := by decide +kernel
theorem dX6_walks_1 : decode cX6_walks 1 = .ok (.getfield 19, 3) := by decide +kernel
theorem dX6_walks_4 : decode cX6_walks 4 = .ok (.iload_n 1, 1) := by decide +kernel
theorem dX6_walks_5 : decode cX6_walks 5 = .ok (.invokevirtual 125, 3) := by decide +kernel
theorem dX6_walks_8 : decode cX6_walks 8 = .ok (.ifCond .ne 5, 3) := by decide +kernel
theorem dX6_walks_11 : decode cX6_walks 11 = .ok (.iconst (-1), 1) := by decide +kernel
theorem dX6_walks_12 : decode cX6_walks 12 = .ok (.ireturn, 1) := by decide +kernel
theorem dX6_walks_13 : decode cX6_walks 13 = .ok (.aload_n 0, 1) := by decide +kernel
theorem dX6_walks_14 : decode cX6_walks 14 = .ok (.getfield 29, 3) := by decide +kernel
theorem dX6_walks_17 : decode cX6_walks 17 = .ok (.getfield 99, 3) := by decide +kernel
theorem dX6_walks_20 : decode cX6_walks 20 = .ok (.getfield 132, 3) := by decide +kernel
theorem dX6_walks_23 : decode cX6_walks 23 = .ok (.aload_n 0, 1) := by decide +kernel
theorem dX6_walks_24 : decode cX6_walks 24 = .ok (.getfield 19, 3) := by decide +kernel
theorem dX6_walks_27 : decode cX6_walks 27 = .ok (.getfield 135, 3) := by decide +kernel
theorem dX6_walks_30 : decode cX6_walks 30 = .ok (.if_icmp .lt 6, 3) := by decide +kernel
theorem dX6_walks_33 : decode cX6_walks 33 = .ok (.bipush (-2), 2) := by decide +kernel
theorem dX6_walks_35 : decode cX6_walks 35 = .ok (.ireturn, 1) := by decide +kernel
theorem dX6_walks_36 : decode cX6_walks 36 = .ok (.aload_n 0, 1) := by decide +kernel
theorem dX6_walks_37 : decode cX6_walks 37 = .ok (.getfield 29, 3) := by decide +kernel
theorem dX6_walks_40 : decode cX6_walks 40 = .ok (.getfield 99, 3) := by decide +kernel
theorem dX6_walks_43 : decode cX6_walks 43 = .ok (.aload_n 0, 1) := by decide +kernel
theorem dX6_walks_44 : decode cX6_walks 44 = .ok (.getfield 19, 3) := by decide +kernel
theorem dX6_walks_47 : decode cX6_walks 47 = .ok (.iload_n 1, 1) := by decide +kernel
theorem dX6_walks_48 : decode cX6_walks 48 = .ok (.invokevirtual 138, 3) := by decide +kernel
theorem dX6_walks_51 : decode cX6_walks 51 = .ok (.istore_n 2, 1) := by decide +kernel
theorem dX6_walks_52 : decode cX6_walks 52 = .ok (.aload_n 0, 1) := by decide +kernel
theorem dX6_walks_53 : decode cX6_walks 53 = .ok (.getfield 29, 3) := by decide +kernel
theorem dX6_walks_56 : decode cX6_walks 56 = .ok (.getfield 99, 3) := by decide +kernel
theorem dX6_walks_59 : decode cX6_walks 59 = .ok (.getfield 142, 3) := by decide +kernel
theorem dX6_walks_62 : decode cX6_walks 62 = .ok (.iload_n 2, 1) := by decide +kernel
theorem dX6_walks_63 : decode cX6_walks 63 = .ok (.iadd, 1) := by decide +kernel
theorem dX6_walks_64 : decode cX6_walks 64 = .ok (.istore_n 3, 1) := by decide +kernel
theorem dX6_walks_65 : decode cX6_walks 65 = .ok (.iload_n 3, 1) := by decide +kernel
theorem dX6_walks_66 : decode cX6_walks 66 = .ok (.sipush 9999, 3) := by decide +kernel
theorem dX6_walks_69 : decode cX6_walks 69 = .ok (.if_icmp .le 6, 3) := by decide +kernel
theorem dX6_walks_72 : decode cX6_walks 72 = .ok (.bipush (-2), 2) := by decide +kernel
theorem dX6_walks_74 : decode cX6_walks 74 = .ok (.ireturn, 1) := by decide +kernel
theorem dX6_walks_75 : decode cX6_walks 75 = .ok (.aload_n 0, 1) := by decide +kernel
theorem dX6_walks_76 : decode cX6_walks 76 = .ok (.getfield 29, 3) := by decide +kernel
theorem dX6_walks_79 : decode cX6_walks 79 = .ok (.invokevirtual 145, 3) := by decide +kernel
theorem dX6_walks_82 : decode cX6_walks 82 = .ok (.aload_n 0, 1) := by decide +kernel
theorem dX6_walks_83 : decode cX6_walks 83 = .ok (.getfield 29, 3) := by decide +kernel
theorem dX6_walks_86 : decode cX6_walks 86 = .ok (.getfield 99, 3) := by decide +kernel
theorem dX6_walks_89 : decode cX6_walks 89 = .ok (.aload_n 0, 1) := by decide +kernel
theorem dX6_walks_90 : decode cX6_walks 90 = .ok (.getfield 19, 3) := by decide +kernel
theorem dX6_walks_93 : decode cX6_walks 93 = .ok (.iload_n 1, 1) := by decide +kernel
theorem dX6_walks_94 : decode cX6_walks 94 = .ok (.iload_n 3, 1) := by decide +kernel
theorem dX6_walks_95 : decode cX6_walks 95 = .ok (.invokevirtual 148, 3) := by decide +kernel
theorem dX6_walks_98 : decode cX6_walks 98 = .ok (.aload_n 0, 1) := by decide +kernel
theorem dX6_walks_99 : decode cX6_walks 99 = .ok (.invokevirtual 87, 3) := by decide +kernel
theorem dX6_walks_102 : decode cX6_walks 102 = .ok (.iload_n 2, 1) := by decide +kernel
theorem dX6_walks_103 : decode cX6_walks 103 = .ok (.ireturn, 1) := by decide +kernel
theorem dX6_backs_0 : decode cX6_backs 0 = .ok (.aload_n 0, 1) := by decide +kernel
theorem dX6_backs_1 : decode cX6_backs 1 = .ok (.getfield 29, 3) := by decide +kernel
theorem dX6_backs_4 : decode cX6_backs 4 = .ok (.getfield 99, 3) := by decide +kernel
theorem dX6_backs_7 : decode cX6_backs 7 = .ok (.astore_n 1, 1) := by decide +kernel
theorem dX6_backs_8 : decode cX6_backs 8 = .ok (.aload_n 1, 1) := by decide +kernel
theorem dX6_backs_9 : decode cX6_backs 9 = .ok (.getfield 132, 3) := by decide +kernel
theorem dX6_backs_12 : decode cX6_backs 12 = .ok (.iconst 1, 1) := by decide +kernel
theorem dX6_backs_13 : decode cX6_backs 13 = .ok (.if_icmp .lt 33, 3) := by decide +kernel
theorem dX6_backs_16 : decode cX6_backs 16 = .ok (.aload_n 0, 1) := by decide +kernel
theorem dX6_backs_17 : decode cX6_backs 17 = .ok (.getfield 19, 3) := by decide +kernel
theorem dX6_backs_20 : decode cX6_backs 20 = .ok (.aload_n 1, 1) := by decide +kernel
theorem dX6_backs_21 : decode cX6_backs 21 = .ok (.getfield 132, 3) := by decide +kernel
theorem dX6_backs_24 : decode cX6_backs 24 = .ok (.iconst 1, 1) := by decide +kernel
theorem dX6_backs_25 : decode cX6_backs 25 = .ok (.isub, 1) := by decide +kernel
theorem dX6_backs_26 : decode cX6_backs 26 = .ok (.invokevirtual 109, 3) := by decide +kernel
theorem dX6_backs_29 : decode cX6_backs 29 = .ok (.ifCond .eq 17, 3) := by decide +kernel
theorem dX6_backs_32 : decode cX6_backs 32 = .ok (.aload_n 0, 1) := by decide +kernel
theorem dX6_backs_33 : decode cX6_backs 33 = .ok (.getfield 19, 3) := by decide +kernel
theorem dX6_backs_36 : decode cX6_backs 36 = .ok (.aload_n 1, 1) := by decide +kernel
theorem dX6_backs_37 : decode cX6_backs 37 = .ok (.getfield 152, 3) := by decide +kernel
theorem dX6_backs_40 : decode cX6_backs 40 = .ok (.invokevirtual 125, 3) := by decide +kernel
theorem dX6_backs_43 : decode cX6_backs 43 = .ok (.ifCond .ne 6, 3) := by decide +kernel
theorem dX6_backs_46 : decode cX6_backs 46 = .ok (.bipush (-2), 2) := by decide +kernel
theorem dX6_backs_48 : decode cX6_backs 48 = .ok (.ireturn, 1) := by decide +kernel
theorem dX6_backs_49 : decode cX6_backs 49 = .ok (.aload_n 1, 1) := by decide +kernel
theorem dX6_backs_50 : decode cX6_backs 50 = .ok (.getfield 132, 3) := by decide +kernel
theorem dX6_backs_53 : decode cX6_backs 53 = .ok (.iconst 1, 1) := by decide +kernel
theorem dX6_backs_54 : decode cX6_backs 54 = .ok (.isub, 1) := by decide +kernel
theorem dX6_backs_55 : decode cX6_backs 55 = .ok (.istore_n 2, 1) := by decide +kernel
theorem dX6_backs_56 : decode cX6_backs 56 = .ok (.iconst 2, 1) := by decide +kernel
theorem dX6_backs_57 : decode cX6_backs 57 = .ok (.aload_n 1, 1) := by decide +kernel
theorem dX6_backs_58 : decode cX6_backs 58 = .ok (.aload_n 0, 1) := by decide +kernel
theorem dX6_backs_59 : decode cX6_backs 59 = .ok (.getfield 19, 3) := by decide +kernel
theorem dX6_backs_62 : decode cX6_backs 62 = .ok (.iload_n 2, 1) := by decide +kernel
theorem dX6_backs_63 : decode cX6_backs 63 = .ok (.aload_n 1, 1) := by decide +kernel
theorem dX6_backs_64 : decode cX6_backs 64 = .ok (.getfield 152, 3) := by decide +kernel
theorem dX6_backs_67 : decode cX6_backs 67 = .ok (.invokevirtual 128, 3) := by decide +kernel
theorem dX6_backs_70 : decode cX6_backs 70 = .ok (.imul, 1) := by decide +kernel
theorem dX6_backs_71 : decode cX6_backs 71 = .ok (.istore_n 3, 1) := by decide +kernel
theorem dX6_backs_72 : decode cX6_backs 72 = .ok (.aload_n 1, 1) := by decide +kernel
theorem dX6_backs_73 : decode cX6_backs 73 = .ok (.getfield 142, 3) := by decide +kernel
theorem dX6_backs_76 : decode cX6_backs 76 = .ok (.iload_n 3, 1) := by decide +kernel
theorem dX6_backs_77 : decode cX6_backs 77 = .ok (.iadd, 1) := by decide +kernel
theorem dX6_backs_78 : decode cX6_backs 78 = .ok (.sipush 9999, 3) := by decide +kernel
theorem dX6_backs_81 : decode cX6_backs 81 = .ok (.if_icmp .le 6, 3) := by decide +kernel
theorem dX6_backs_84 : decode cX6_backs 84 = .ok (.bipush (-2), 2) := by decide +kernel
theorem dX6_backs_86 : decode cX6_backs 86 = .ok (.ireturn, 1) := by decide +kernel
theorem dX6_backs_87 : decode cX6_backs 87 = .ok (.aload_n 0, 1) := by decide +kernel
theorem dX6_backs_88 : decode cX6_backs 88 = .ok (.getfield 29, 3) := by decide +kernel
theorem dX6_backs_91 : decode cX6_backs 91 = .ok (.invokevirtual 145, 3) := by decide +kernel
theorem dX6_backs_94 : decode cX6_backs 94 = .ok (.aload_n 1, 1) := by decide +kernel
theorem dX6_backs_95 : decode cX6_backs 95 = .ok (.iload_n 2, 1) := by decide +kernel
theorem dX6_backs_96 : decode cX6_backs 96 = .ok (.putfield 132, 3) := by decide +kernel
theorem dX6_backs_99 : decode cX6_backs 99 = .ok (.aload_n 1, 1) := by decide +kernel
theorem dX6_backs_100 : decode cX6_backs 100 = .ok (.dup, 1) := by decide +kernel
theorem dX6_backs_101 : decode cX6_backs 101 = .ok (.getfield 142, 3) := by decide +kernel
theorem dX6_backs_104 : decode cX6_backs 104 = .ok (.iload_n 3, 1) := by decide +kernel
theorem dX6_backs_105 : decode cX6_backs 105 = .ok (.iadd, 1) := by decide +kernel
theorem dX6_backs_106 : decode cX6_backs 106 = .ok (.putfield 142, 3) := by decide +kernel
theorem dX6_backs_109 : decode cX6_backs 109 = .ok (.aload_n 1, 1) := by decide +kernel
theorem dX6_backs_110 : decode cX6_backs 110 = .ok (.aload_n 1, 1) := by decide +kernel
theorem dX6_backs_111 : decode cX6_backs 111 = .ok (.getfield 152, 3) := by decide +kernel
theorem dX6_backs_114 : decode cX6_backs 114 = .ok (.aload_n 0, 1) := by decide +kernel
theorem dX6_backs_115 : decode cX6_backs 115 = .ok (.getfield 19, 3) := by decide +kernel
theorem dX6_backs_118 : decode cX6_backs 118 = .ok (.getfield 113, 3) := by decide +kernel
theorem dX6_backs_121 : decode cX6_backs 121 = .ok (.iload_n 2, 1) := by decide +kernel
theorem dX6_backs_122 : decode cX6_backs 122 = .ok (.iaload, 1) := by decide +kernel
theorem dX6_backs_123 : decode cX6_backs 123 = .ok (.invokevirtual 155, 3) := by decide +kernel
theorem dX6_backs_126 : decode cX6_backs 126 = .ok (.aload_n 0, 1) := by decide +kernel
theorem dX6_backs_127 : decode cX6_backs 127 = .ok (.invokevirtual 87, 3) := by decide +kernel
theorem dX6_backs_130 : decode cX6_backs 130 = .ok (.iload_n 3, 1) := by decide +kernel
theorem dX6_backs_131 : decode cX6_backs 131 = .ok (.ireturn, 1) := by decide +kernel
theorem dX6_rests_0 : decode cX6_rests 0 = .ok (.iload_n 1, 1) := by decide +kernel
theorem dX6_rests_1 : decode cX6_rests 1 = .ok (.iconst 1, 1) := by decide +kernel
theorem dX6_rests_2 : decode cX6_rests 2 = .ok (.if_icmp .lt 9, 3) := by decide +kernel
theorem dX6_rests_5 : decode cX6_rests 5 = .ok (.iload_n 1, 1) := by decide +kernel
theorem dX6_rests_6 : decode cX6_rests 6 = .ok (.bipush 99, 2) := by decide +kernel
theorem dX6_rests_8 : decode cX6_rests 8 = .ok (.if_icmp .le 5, 3) := by decide +kernel
theorem dX6_rests_11 : decode cX6_rests 11 = .ok (.iconst (-1), 1) := by decide +kernel
theorem dX6_rests_12 : decode cX6_rests 12 = .ok (.ireturn, 1) := by decide +kernel
theorem dX6_rests_13 : decode cX6_rests 13 = .ok (.aload_n 0, 1) := by decide +kernel
theorem dX6_rests_14 : decode cX6_rests 14 = .ok (.getfield 29, 3) := by decide +kernel
theorem dX6_rests_17 : decode cX6_rests 17 = .ok (.getfield 99, 3) := by decide +kernel
theorem dX6_rests_20 : decode cX6_rests 20 = .ok (.getfield 142, 3) := by decide +kernel
theorem dX6_rests_23 : decode cX6_rests 23 = .ok (.iload_n 1, 1) := by decide +kernel
theorem dX6_rests_24 : decode cX6_rests 24 = .ok (.iadd, 1) := by decide +kernel
theorem dX6_rests_25 : decode cX6_rests 25 = .ok (.sipush 9999, 3) := by decide +kernel
theorem dX6_rests_28 : decode cX6_rests 28 = .ok (.if_icmp .le 6, 3) := by decide +kernel
theorem dX6_rests_31 : decode cX6_rests 31 = .ok (.bipush (-2), 2) := by decide +kernel
theorem dX6_rests_33 : decode cX6_rests 33 = .ok (.ireturn, 1) := by decide +kernel
theorem dX6_rests_34 : decode cX6_rests 34 = .ok (.aload_n 0, 1) := by decide +kernel
theorem dX6_rests_35 : decode cX6_rests 35 = .ok (.getfield 29, 3) := by decide +kernel
theorem dX6_rests_38 : decode cX6_rests 38 = .ok (.invokevirtual 145, 3) := by decide +kernel
theorem dX6_rests_41 : decode cX6_rests 41 = .ok (.aload_n 0, 1) := by decide +kernel
theorem dX6_rests_42 : decode cX6_rests 42 = .ok (.getfield 29, 3) := by decide +kernel
theorem dX6_rests_45 : decode cX6_rests 45 = .ok (.getfield 99, 3) := by decide +kernel
theorem dX6_rests_48 : decode cX6_rests 48 = .ok (.dup, 1) := by decide +kernel
theorem dX6_rests_49 : decode cX6_rests 49 = .ok (.getfield 142, 3) := by decide +kernel
theorem dX6_rests_52 : decode cX6_rests 52 = .ok (.iload_n 1, 1) := by decide +kernel
theorem dX6_rests_53 : decode cX6_rests 53 = .ok (.iadd, 1) := by decide +kernel
theorem dX6_rests_54 : decode cX6_rests 54 = .ok (.putfield 142, 3) := by decide +kernel
theorem dX6_rests_57 : decode cX6_rests 57 = .ok (.aload_n 0, 1) := by decide +kernel
theorem dX6_rests_58 : decode cX6_rests 58 = .ok (.getfield 29, 3) := by decide +kernel
theorem dX6_rests_61 : decode cX6_rests 61 = .ok (.getfield 99, 3) := by decide +kernel
theorem dX6_rests_64 : decode cX6_rests 64 = .ok (.iload_n 1, 1) := by decide +kernel
theorem dX6_rests_65 : decode cX6_rests 65 = .ok (.invokevirtual 159, 3) := by decide +kernel
theorem dX6_rests_68 : decode cX6_rests 68 = .ok (.aload_n 0, 1) := by decide +kernel
theorem dX6_rests_69 : decode cX6_rests 69 = .ok (.invokevirtual 87, 3) := by decide +kernel
theorem dX6_rests_72 : decode cX6_rests 72 = .ok (.aload_n 0, 1) := by decide +kernel
theorem dX6_rests_73 : decode cX6_rests 73 = .ok (.getfield 29, 3) := by decide +kernel
theorem dX6_rests_76 : decode cX6_rests 76 = .ok (.getfield 99, 3) := by decide +kernel
theorem dX6_rests_79 : decode cX6_rests 79 = .ok (.getfield 142, 3) := by decide +kernel
theorem dX6_rests_82 : decode cX6_rests 82 = .ok (.ireturn, 1) := by decide +kernel
theorem dX6_undo_0 : decode cX6_undo 0 = .ok (.aload_n 0, 1) := by decide +kernel
theorem dX6_undo_1 : decode cX6_undo 1 = .ok (.getfield 29, 3) := by decide +kernel
theorem dX6_undo_4 : decode cX6_undo 4 = .ok (.getfield 163, 3) := by decide +kernel
theorem dX6_undo_7 : decode cX6_undo 7 = .ok (.iconst 1, 1) := by decide +kernel
theorem dX6_undo_8 : decode cX6_undo 8 = .ok (.if_icmp .ge 6, 3) := by decide +kernel
theorem dX6_undo_11 : decode cX6_undo 11 = .ok (.bipush (-2), 2) := by decide +kernel
theorem dX6_undo_13 : decode cX6_undo 13 = .ok (.ireturn, 1) := by decide +kernel
theorem dX6_undo_14 : decode cX6_undo 14 = .ok (.aload_n 0, 1) := by decide +kernel
theorem dX6_undo_15 : decode cX6_undo 15 = .ok (.getfield 29, 3) := by decide +kernel
theorem dX6_undo_18 : decode cX6_undo 18 = .ok (.invokevirtual 166, 3) := by decide +kernel
theorem dX6_undo_21 : decode cX6_undo 21 = .ok (.aload_n 0, 1) := by decide +kernel
theorem dX6_undo_22 : decode cX6_undo 22 = .ok (.invokevirtual 87, 3) := by decide +kernel
theorem dX6_undo_25 : decode cX6_undo 25 = .ok (.aload_n 0, 1) := by decide +kernel
theorem dX6_undo_26 : decode cX6_undo 26 = .ok (.getfield 29, 3) := by decide +kernel
theorem dX6_undo_29 : decode cX6_undo 29 = .ok (.getfield 163, 3) := by decide +kernel
theorem dX6_undo_32 : decode cX6_undo 32 = .ok (.ireturn, 1) := by decide +kernel
theorem dX6_now_0 : decode cX6_now 0 = .ok (.aload_n 0, 1) := by decide +kernel
theorem dX6_now_1 : decode cX6_now 1 = .ok (.getfield 29, 3) := by decide +kernel
theorem dX6_now_4 : decode cX6_now 4 = .ok (.getfield 99, 3) := by decide +kernel
theorem dX6_now_7 : decode cX6_now 7 = .ok (.astore_n 2, 1) := by decide +kernel
theorem dX6_now_8 : decode cX6_now 8 = .ok (.iload_n 1, 1) := by decide +kernel
theorem dX6_now_9 : decode cX6_now 9 = .ok (.tableswitch 126 0 6 #[43, 48, 53, 58, 67, 87, 106], 43) := by decide +kernel
theorem dX6_now_52 : decode cX6_now 52 = .ok (.aload_n 2, 1) := by decide +kernel
theorem dX6_now_53 : decode cX6_now 53 = .ok (.getfield 132, 3) := by decide +kernel
theorem dX6_now_56 : decode cX6_now 56 = .ok (.ireturn, 1) := by decide +kernel
theorem dX6_now_57 : decode cX6_now 57 = .ok (.aload_n 2, 1) := by decide +kernel
theorem dX6_now_58 : decode cX6_now 58 = .ok (.getfield 142, 3) := by decide +kernel
theorem dX6_now_61 : decode cX6_now 61 = .ok (.ireturn, 1) := by decide +kernel
theorem dX6_now_62 : decode cX6_now 62 = .ok (.aload_n 2, 1) := by decide +kernel
theorem dX6_now_63 : decode cX6_now 63 = .ok (.getfield 152, 3) := by decide +kernel
theorem dX6_now_66 : decode cX6_now 66 = .ok (.ireturn, 1) := by decide +kernel
theorem dX6_now_67 : decode cX6_now 67 = .ok (.aload_n 2, 1) := by decide +kernel
theorem dX6_now_68 : decode cX6_now 68 = .ok (.aload_n 0, 1) := by decide +kernel
theorem dX6_now_69 : decode cX6_now 69 = .ok (.getfield 19, 3) := by decide +kernel
theorem dX6_now_72 : decode cX6_now 72 = .ok (.invokevirtual 169, 3) := by decide +kernel
theorem dX6_now_75 : decode cX6_now 75 = .ok (.ireturn, 1) := by decide +kernel
theorem dX6_now_76 : decode cX6_now 76 = .ok (.aload_n 0, 1) := by decide +kernel
theorem dX6_now_77 : decode cX6_now 77 = .ok (.getfield 19, 3) := by decide +kernel
theorem dX6_now_80 : decode cX6_now 80 = .ok (.aload_n 2, 1) := by decide +kernel
theorem dX6_now_81 : decode cX6_now 81 = .ok (.getfield 142, 3) := by decide +kernel
theorem dX6_now_84 : decode cX6_now 84 = .ok (.invokevirtual 172, 3) := by decide +kernel
theorem dX6_now_87 : decode cX6_now 87 = .ok (.ifCond .eq 7, 3) := by decide +kernel
theorem dX6_now_90 : decode cX6_now 90 = .ok (.iconst 1, 1) := by decide +kernel
theorem dX6_now_91 : decode cX6_now 91 = .ok (.goto 4, 3) := by decide +kernel
theorem dX6_now_94 : decode cX6_now 94 = .ok (.iconst 0, 1) := by decide +kernel
theorem dX6_now_95 : decode cX6_now 95 = .ok (.ireturn, 1) := by decide +kernel
theorem dX6_now_96 : decode cX6_now 96 = .ok (.aload_n 0, 1) := by decide +kernel
theorem dX6_now_97 : decode cX6_now 97 = .ok (.getfield 19, 3) := by decide +kernel
theorem dX6_now_100 : decode cX6_now 100 = .ok (.aload_n 2, 1) := by decide +kernel
theorem dX6_now_101 : decode cX6_now 101 = .ok (.getfield 132, 3) := by decide +kernel
theorem dX6_now_104 : decode cX6_now 104 = .ok (.aload_n 0, 1) := by decide +kernel
theorem dX6_now_105 : decode cX6_now 105 = .ok (.getfield 19, 3) := by decide +kernel
theorem dX6_now_108 : decode cX6_now 108 = .ok (.getfield 135, 3) := by decide +kernel
theorem dX6_now_111 : decode cX6_now 111 = .ok (.invokevirtual 175, 3) := by decide +kernel
theorem dX6_now_114 : decode cX6_now 114 = .ok (.ireturn, 1) := by decide +kernel
theorem dX6_now_115 : decode cX6_now 115 = .ok (.aload_n 2, 1) := by decide +kernel
theorem dX6_now_116 : decode cX6_now 116 = .ok (.getfield 132, 3) := by decide +kernel
theorem dX6_now_119 : decode cX6_now 119 = .ok (.aload_n 0, 1) := by decide +kernel
theorem dX6_now_120 : decode cX6_now 120 = .ok (.getfield 19, 3) := by decide +kernel
theorem dX6_now_123 : decode cX6_now 123 = .ok (.getfield 135, 3) := by decide +kernel
theorem dX6_now_126 : decode cX6_now 126 = .ok (.if_icmp .lt 7, 3) := by decide +kernel
theorem dX6_now_129 : decode cX6_now 129 = .ok (.iconst 1, 1) := by decide +kernel
theorem dX6_now_130 : decode cX6_now 130 = .ok (.goto 4, 3) := by decide +kernel
theorem dX6_now_133 : decode cX6_now 133 = .ok (.iconst 0, 1) := by decide +kernel
theorem dX6_now_134 : decode cX6_now 134 = .ok (.ireturn, 1) := by decide +kernel
theorem dX6_now_135 : decode cX6_now 135 = .ok (.iconst (-1), 1) := by decide +kernel
theorem dX6_now_136 : decode cX6_now 136 = .ok (.ireturn, 1) := by decide +kernel
theorem dX6_moved_0 : decode cX6_moved 0 = .ok (.aload_n 0, 1) := by decide +kernel
theorem dX6_moved_1 : decode cX6_moved 1 = .ok (.getfield 53, 3) := by decide +kernel
theorem dX6_moved_4 : decode cX6_moved 4 = .ok (.iconst 0, 1) := by decide +kernel
theorem dX6_moved_5 : decode cX6_moved 5 = .ok (.putfield 179, 3) := by decide +kernel
theorem dX6_moved_8 : decode cX6_moved 8 = .ok (.aload_n 0, 1) := by decide +kernel
theorem dX6_moved_9 : decode cX6_moved 9 = .ok (.getfield 57, 3) := by decide +kernel
theorem dX6_moved_12 : decode cX6_moved 12 = .ok (.iconst 0, 1) := by decide +kernel
theorem dX6_moved_13 : decode cX6_moved 13 = .ok (.putfield 179, 3) := by decide +kernel
theorem dX6_moved_16 : decode cX6_moved 16 = .ok (.return_, 1) := by decide +kernel
theorem dX6_best_0 : decode cX6_best 0 = .ok (.aload_n 0, 1) := by decide +kernel
theorem dX6_best_1 : decode cX6_best 1 = .ok (.aload_n 0, 1) := by decide +kernel
theorem dX6_best_2 : decode cX6_best 2 = .ok (.getfield 53, 3) := by decide +kernel
theorem dX6_best_5 : decode cX6_best 5 = .ok (.iload_n 1, 1) := by decide +kernel
theorem dX6_best_6 : decode cX6_best 6 = .ok (.invokevirtual 182, 3) := by decide +kernel
theorem dX6_best_9 : decode cX6_best 9 = .ok (.ireturn, 1) := by decide +kernel
theorem dX6_fresh_0 : decode cX6_fresh 0 = .ok (.aload_n 0, 1) := by decide +kernel
theorem dX6_fresh_1 : decode cX6_fresh 1 = .ok (.aload_n 0, 1) := by decide +kernel
theorem dX6_fresh_2 : decode cX6_fresh 2 = .ok (.getfield 57, 3) := by decide +kernel
theorem dX6_fresh_5 : decode cX6_fresh 5 = .ok (.iload_n 1, 1) := by decide +kernel
theorem dX6_fresh_6 : decode cX6_fresh 6 = .ok (.invokevirtual 182, 3) := by decide +kernel
theorem dX6_fresh_9 : decode cX6_fresh 9 = .ok (.ireturn, 1) := by decide +kernel
theorem dX6_planned_0 : decode cX6_planned 0 = .ok (.iload_n 2, 1) := by decide +kernel
theorem dX6_planned_1 : decode cX6_planned 1 = .ok (.iconst (-1), 1) := by decide +kernel
theorem dX6_planned_2 : decode cX6_planned 2 = .ok (.if_icmp .lt 9, 3) := by decide +kernel
theorem dX6_planned_5 : decode cX6_planned 5 = .ok (.iload_n 2, 1) := by decide +kernel
theorem dX6_planned_6 : decode cX6_planned 6 = .ok (.bipush 6, 2) := by decide +kernel
theorem dX6_planned_8 : decode cX6_planned 8 = .ok (.if_icmp .lt 5, 3) := by decide +kernel
theorem dX6_planned_11 : decode cX6_planned 11 = .ok (.iconst (-1), 1) := by decide +kernel
theorem dX6_planned_12 : decode cX6_planned 12 = .ok (.ireturn, 1) := by decide +kernel
theorem dX6_planned_13 : decode cX6_planned 13 = .ok (.aload_n 1, 1) := by decide +kernel
theorem dX6_planned_14 : decode cX6_planned 14 = .ok (.getfield 179, 3) := by decide +kernel
theorem dX6_planned_17 : decode cX6_planned 17 = .ok (.ifCond .ne 18, 3) := by decide +kernel
theorem dX6_planned_20 : decode cX6_planned 20 = .ok (.aload_n 1, 1) := by decide +kernel
theorem dX6_planned_21 : decode cX6_planned 21 = .ok (.aload_n 0, 1) := by decide +kernel
theorem dX6_planned_22 : decode cX6_planned 22 = .ok (.getfield 19, 3) := by decide +kernel
theorem dX6_planned_25 : decode cX6_planned 25 = .ok (.aload_n 0, 1) := by decide +kernel
theorem dX6_planned_26 : decode cX6_planned 26 = .ok (.getfield 29, 3) := by decide +kernel
theorem dX6_planned_29 : decode cX6_planned 29 = .ok (.getfield 99, 3) := by decide +kernel
theorem dX6_planned_32 : decode cX6_planned 32 = .ok (.invokevirtual 185, 3) := by decide +kernel
theorem dX6_planned_35 : decode cX6_planned 35 = .ok (.iload_n 2, 1) := by decide +kernel
theorem dX6_planned_36 : decode cX6_planned 36 = .ok (.ifCond .ge 10, 3) := by decide +kernel
theorem dX6_planned_39 : decode cX6_planned 39 = .ok (.aload_n 1, 1) := by decide +kernel
theorem dX6_planned_40 : decode cX6_planned 40 = .ok (.getfield 189, 3) := by decide +kernel
theorem dX6_planned_43 : decode cX6_planned 43 = .ok (.goto 9, 3) := by decide +kernel
theorem dX6_planned_46 : decode cX6_planned 46 = .ok (.aload_n 1, 1) := by decide +kernel
theorem dX6_planned_47 : decode cX6_planned 47 = .ok (.getfield 192, 3) := by decide +kernel
theorem dX6_planned_50 : decode cX6_planned 50 = .ok (.iload_n 2, 1) := by decide +kernel
theorem dX6_planned_51 : decode cX6_planned 51 = .ok (.iaload, 1) := by decide +kernel
theorem dX6_planned_52 : decode cX6_planned 52 = .ok (.ireturn, 1) := by decide +kernel
theorem dX6_hired_0 : decode cX6_hired 0 = .ok (.aload_n 0, 1) := by decide +kernel
theorem dX6_hired_1 : decode cX6_hired 1 = .ok (.getfield 19, 3) := by decide +kernel
theorem dX6_hired_4 : decode cX6_hired 4 = .ok (.iload_n 1, 1) := by decide +kernel
theorem dX6_hired_5 : decode cX6_hired 5 = .ok (.invokevirtual 125, 3) := by decide +kernel
theorem dX6_hired_8 : decode cX6_hired 8 = .ok (.ifCond .eq 22, 3) := by decide +kernel
theorem dX6_hired_11 : decode cX6_hired 11 = .ok (.iload_n 2, 1) := by decide +kernel
theorem dX6_hired_12 : decode cX6_hired 12 = .ok (.ifCond .lt 18, 3) := by decide +kernel
theorem dX6_hired_15 : decode cX6_hired 15 = .ok (.iload_n 2, 1) := by decide +kernel
theorem dX6_hired_16 : decode cX6_hired 16 = .ok (.bipush 99, 2) := by decide +kernel
theorem dX6_hired_18 : decode cX6_hired 18 = .ok (.if_icmp .gt 12, 3) := by decide +kernel
theorem dX6_hired_21 : decode cX6_hired 21 = .ok (.iload_n 3, 1) := by decide +kernel
theorem dX6_hired_22 : decode cX6_hired 22 = .ok (.ifCond .lt 8, 3) := by decide +kernel
theorem dX6_hired_25 : decode cX6_hired 25 = .ok (.iload_n 3, 1) := by decide +kernel
theorem dX6_hired_26 : decode cX6_hired 26 = .ok (.iconst 1, 1) := by decide +kernel
theorem dX6_hired_27 : decode cX6_hired 27 = .ok (.if_icmp .le 5, 3) := by decide +kernel
theorem dX6_hired_30 : decode cX6_hired 30 = .ok (.iconst (-1), 1) := by decide +kernel
theorem dX6_hired_31 : decode cX6_hired 31 = .ok (.ireturn, 1) := by decide +kernel
theorem dX6_hired_32 : decode cX6_hired 32 = .ok (.iconst 1, 1) := by decide +kernel
theorem dX6_hired_33 : decode cX6_hired 33 = .ok (.aload_n 0, 1) := by decide +kernel
theorem dX6_hired_34 : decode cX6_hired 34 = .ok (.getfield 19, 3) := by decide +kernel
theorem dX6_hired_37 : decode cX6_hired 37 = .ok (.getfield 135, 3) := by decide +kernel
theorem dX6_hired_40 : decode cX6_hired 40 = .ok (.ishl, 1) := by decide +kernel
theorem dX6_hired_41 : decode cX6_hired 41 = .ok (.iconst 1, 1) := by decide +kernel
theorem dX6_hired_42 : decode cX6_hired 42 = .ok (.isub, 1) := by decide +kernel
theorem dX6_hired_43 : decode cX6_hired 43 = .ok (.istore 4, 2) := by decide +kernel
theorem dX6_hired_45 : decode cX6_hired 45 = .ok (.iconst 1, 1) := by decide +kernel
theorem dX6_hired_46 : decode cX6_hired 46 = .ok (.aload_n 0, 1) := by decide +kernel
theorem dX6_hired_47 : decode cX6_hired 47 = .ok (.getfield 29, 3) := by decide +kernel
theorem dX6_hired_50 : decode cX6_hired 50 = .ok (.getfield 99, 3) := by decide +kernel
theorem dX6_hired_53 : decode cX6_hired 53 = .ok (.getfield 132, 3) := by decide +kernel
theorem dX6_hired_56 : decode cX6_hired 56 = .ok (.ishl, 1) := by decide +kernel
theorem dX6_hired_57 : decode cX6_hired 57 = .ok (.iconst 1, 1) := by decide +kernel
theorem dX6_hired_58 : decode cX6_hired 58 = .ok (.isub, 1) := by decide +kernel
theorem dX6_hired_59 : decode cX6_hired 59 = .ok (.istore 5, 2) := by decide +kernel
theorem dX6_hired_61 : decode cX6_hired 61 = .ok (.iconst 0, 1) := by decide +kernel
theorem dX6_hired_62 : decode cX6_hired 62 = .ok (.istore 6, 2) := by decide +kernel
theorem dX6_hired_64 : decode cX6_hired 64 = .ok (.iconst 0, 1) := by decide +kernel
theorem dX6_hired_65 : decode cX6_hired 65 = .ok (.istore 7, 2) := by decide +kernel
theorem dX6_hired_67 : decode cX6_hired 67 = .ok (.aload_n 0, 1) := by decide +kernel
theorem dX6_hired_68 : decode cX6_hired 68 = .ok (.iload_n 1, 1) := by decide +kernel
theorem dX6_hired_69 : decode cX6_hired 69 = .ok (.iconst 0, 1) := by decide +kernel
theorem dX6_hired_70 : decode cX6_hired 70 = .ok (.invokevirtual 195, 3) := by decide +kernel
theorem dX6_hired_73 : decode cX6_hired 73 = .ok (.istore 8, 2) := by decide +kernel
theorem dX6_hired_75 : decode cX6_hired 75 = .ok (.iconst 1, 1) := by decide +kernel
theorem dX6_hired_76 : decode cX6_hired 76 = .ok (.istore 9, 2) := by decide +kernel
theorem dX6_hired_78 : decode cX6_hired 78 = .ok (.iload 9, 2) := by decide +kernel
theorem dX6_hired_80 : decode cX6_hired 80 = .ok (.iload 4, 2) := by decide +kernel
theorem dX6_hired_82 : decode cX6_hired 82 = .ok (.if_icmp .gt 79, 3) := by decide +kernel
theorem dX6_hired_85 : decode cX6_hired 85 = .ok (.aload_n 0, 1) := by decide +kernel
theorem dX6_hired_86 : decode cX6_hired 86 = .ok (.getfield 19, 3) := by decide +kernel
theorem dX6_hired_89 : decode cX6_hired 89 = .ok (.iload 9, 2) := by decide +kernel
theorem dX6_hired_91 : decode cX6_hired 91 = .ok (.invokevirtual 198, 3) := by decide +kernel
theorem dX6_hired_94 : decode cX6_hired 94 = .ok (.istore 10, 2) := by decide +kernel
theorem dX6_hired_96 : decode cX6_hired 96 = .ok (.iload 9, 2) := by decide +kernel
theorem dX6_hired_98 : decode cX6_hired 98 = .ok (.iload 5, 2) := by decide +kernel
theorem dX6_hired_100 : decode cX6_hired 100 = .ok (.iand, 1) := by decide +kernel
theorem dX6_hired_101 : decode cX6_hired 101 = .ok (.ifCond .ne 54, 3) := by decide +kernel
theorem dX6_hired_104 : decode cX6_hired 104 = .ok (.iload 10, 2) := by decide +kernel
theorem dX6_hired_106 : decode cX6_hired 106 = .ok (.iload_n 2, 1) := by decide +kernel
theorem dX6_hired_107 : decode cX6_hired 107 = .ok (.if_icmp .le 6, 3) := by decide +kernel
theorem dX6_hired_110 : decode cX6_hired 110 = .ok (.goto 45, 3) := by decide +kernel
theorem dX6_hired_113 : decode cX6_hired 113 = .ok (.aload_n 0, 1) := by decide +kernel
theorem dX6_hired_114 : decode cX6_hired 114 = .ok (.iload_n 1, 1) := by decide +kernel
theorem dX6_hired_115 : decode cX6_hired 115 = .ok (.iload 9, 2) := by decide +kernel
theorem dX6_hired_117 : decode cX6_hired 117 = .ok (.invokevirtual 195, 3) := by decide +kernel
theorem dX6_hired_120 : decode cX6_hired 120 = .ok (.istore 11, 2) := by decide +kernel
theorem dX6_hired_122 : decode cX6_hired 122 = .ok (.iload 11, 2) := by decide +kernel
theorem dX6_hired_124 : decode cX6_hired 124 = .ok (.iload 8, 2) := by decide +kernel
theorem dX6_hired_126 : decode cX6_hired 126 = .ok (.if_icmp .lt 17, 3) := by decide +kernel
theorem dX6_hired_129 : decode cX6_hired 129 = .ok (.iload 11, 2) := by decide +kernel
theorem dX6_hired_131 : decode cX6_hired 131 = .ok (.iload 8, 2) := by decide +kernel
theorem dX6_hired_133 : decode cX6_hired 133 = .ok (.if_icmp .ne 22, 3) := by decide +kernel
theorem dX6_hired_136 : decode cX6_hired 136 = .ok (.iload 10, 2) := by decide +kernel
theorem dX6_hired_138 : decode cX6_hired 138 = .ok (.iload 7, 2) := by decide +kernel
theorem dX6_hired_140 : decode cX6_hired 140 = .ok (.if_icmp .ge 15, 3) := by decide +kernel
theorem dX6_hired_143 : decode cX6_hired 143 = .ok (.iload 9, 2) := by decide +kernel
theorem dX6_hired_145 : decode cX6_hired 145 = .ok (.istore 6, 2) := by decide +kernel
theorem dX6_hired_147 : decode cX6_hired 147 = .ok (.iload 10, 2) := by decide +kernel
theorem dX6_hired_149 : decode cX6_hired 149 = .ok (.istore 7, 2) := by decide +kernel
theorem dX6_hired_151 : decode cX6_hired 151 = .ok (.iload 11, 2) := by decide +kernel
theorem dX6_hired_153 : decode cX6_hired 153 = .ok (.istore 8, 2) := by decide +kernel
theorem dX6_hired_155 : decode cX6_hired 155 = .ok (.iinc 9 1, 3) := by decide +kernel
theorem dX6_hired_158 : decode cX6_hired 158 = .ok (.goto (-80), 3) := by decide +kernel
theorem dX6_hired_161 : decode cX6_hired 161 = .ok (.iload_n 3, 1) := by decide +kernel
theorem dX6_hired_162 : decode cX6_hired 162 = .ok (.ifCond .ne 8, 3) := by decide +kernel
theorem dX6_hired_165 : decode cX6_hired 165 = .ok (.iload 6, 2) := by decide +kernel
theorem dX6_hired_167 : decode cX6_hired 167 = .ok (.goto 5, 3) := by decide +kernel
theorem dX6_hired_170 : decode cX6_hired 170 = .ok (.iload 8, 2) := by decide +kernel
theorem dX6_hired_172 : decode cX6_hired 172 = .ok (.ireturn, 1) := by decide +kernel
theorem dX6_minutesWithHired_0 : decode cX6_minutesWithHired 0 = .ok (.aload_n 0, 1) := by decide +kernel
theorem dX6_minutesWithHired_1 : decode cX6_minutesWithHired 1 = .ok (.getfield 63, 3) := by decide +kernel
theorem dX6_minutesWithHired_4 : decode cX6_minutesWithHired 4 = .ok (.aload_n 0, 1) := by decide +kernel
theorem dX6_minutesWithHired_5 : decode cX6_minutesWithHired 5 = .ok (.getfield 29, 3) := by decide +kernel
theorem dX6_minutesWithHired_8 : decode cX6_minutesWithHired 8 = .ok (.getfield 99, 3) := by decide +kernel
theorem dX6_minutesWithHired_11 : decode cX6_minutesWithHired 11 = .ok (.invokevirtual 202, 3) := by decide +kernel
theorem dX6_minutesWithHired_14 : decode cX6_minutesWithHired 14 = .ok (.iconst 0, 1) := by decide +kernel
theorem dX6_minutesWithHired_15 : decode cX6_minutesWithHired 15 = .ok (.istore_n 3, 1) := by decide +kernel
theorem dX6_minutesWithHired_16 : decode cX6_minutesWithHired 16 = .ok (.aload_n 0, 1) := by decide +kernel
theorem dX6_minutesWithHired_17 : decode cX6_minutesWithHired 17 = .ok (.getfield 29, 3) := by decide +kernel
theorem dX6_minutesWithHired_20 : decode cX6_minutesWithHired 20 = .ok (.getfield 99, 3) := by decide +kernel
theorem dX6_minutesWithHired_23 : decode cX6_minutesWithHired 23 = .ok (.getfield 132, 3) := by decide +kernel
theorem dX6_minutesWithHired_26 : decode cX6_minutesWithHired 26 = .ok (.istore 4, 2) := by decide +kernel
theorem dX6_minutesWithHired_28 : decode cX6_minutesWithHired 28 = .ok (.iload 4, 2) := by decide +kernel
theorem dX6_minutesWithHired_30 : decode cX6_minutesWithHired 30 = .ok (.aload_n 0, 1) := by decide +kernel
theorem dX6_minutesWithHired_31 : decode cX6_minutesWithHired 31 = .ok (.getfield 19, 3) := by decide +kernel
theorem dX6_minutesWithHired_34 : decode cX6_minutesWithHired 34 = .ok (.getfield 135, 3) := by decide +kernel
theorem dX6_minutesWithHired_37 : decode cX6_minutesWithHired 37 = .ok (.if_icmp .ge 89, 3) := by decide +kernel
theorem dX6_minutesWithHired_40 : decode cX6_minutesWithHired 40 = .ok (.iload_n 2, 1) := by decide +kernel
theorem dX6_minutesWithHired_41 : decode cX6_minutesWithHired 41 = .ok (.iload 4, 2) := by decide +kernel
theorem dX6_minutesWithHired_43 : decode cX6_minutesWithHired 43 = .ok (.ishr, 1) := by decide +kernel
theorem dX6_minutesWithHired_44 : decode cX6_minutesWithHired 44 = .ok (.iconst 1, 1) := by decide +kernel
theorem dX6_minutesWithHired_45 : decode cX6_minutesWithHired 45 = .ok (.iand, 1) := by decide +kernel
theorem dX6_minutesWithHired_46 : decode cX6_minutesWithHired 46 = .ok (.iconst 1, 1) := by decide +kernel
theorem dX6_minutesWithHired_47 : decode cX6_minutesWithHired 47 = .ok (.if_icmp .ne 38, 3) := by decide +kernel
theorem dX6_minutesWithHired_50 : decode cX6_minutesWithHired 50 = .ok (.iload_n 3, 1) := by decide +kernel
theorem dX6_minutesWithHired_51 : decode cX6_minutesWithHired 51 = .ok (.iconst 3, 1) := by decide +kernel
theorem dX6_minutesWithHired_52 : decode cX6_minutesWithHired 52 = .ok (.aload_n 0, 1) := by decide +kernel
theorem dX6_minutesWithHired_53 : decode cX6_minutesWithHired 53 = .ok (.getfield 19, 3) := by decide +kernel
theorem dX6_minutesWithHired_56 : decode cX6_minutesWithHired 56 = .ok (.getfield 113, 3) := by decide +kernel
theorem dX6_minutesWithHired_59 : decode cX6_minutesWithHired 59 = .ok (.iload 4, 2) := by decide +kernel
theorem dX6_minutesWithHired_61 : decode cX6_minutesWithHired 61 = .ok (.iaload, 1) := by decide +kernel
theorem dX6_minutesWithHired_62 : decode cX6_minutesWithHired 62 = .ok (.imul, 1) := by decide +kernel
theorem dX6_minutesWithHired_63 : decode cX6_minutesWithHired 63 = .ok (.iadd, 1) := by decide +kernel
theorem dX6_minutesWithHired_64 : decode cX6_minutesWithHired 64 = .ok (.istore_n 3, 1) := by decide +kernel
theorem dX6_minutesWithHired_65 : decode cX6_minutesWithHired 65 = .ok (.aload_n 0, 1) := by decide +kernel
theorem dX6_minutesWithHired_66 : decode cX6_minutesWithHired 66 = .ok (.getfield 63, 3) := by decide +kernel
theorem dX6_minutesWithHired_69 : decode cX6_minutesWithHired 69 = .ok (.aload_n 0, 1) := by decide +kernel
theorem dX6_minutesWithHired_70 : decode cX6_minutesWithHired 70 = .ok (.getfield 19, 3) := by decide +kernel
theorem dX6_minutesWithHired_73 : decode cX6_minutesWithHired 73 = .ok (.getfield 113, 3) := by decide +kernel
theorem dX6_minutesWithHired_76 : decode cX6_minutesWithHired 76 = .ok (.iload 4, 2) := by decide +kernel
theorem dX6_minutesWithHired_78 : decode cX6_minutesWithHired 78 = .ok (.iaload, 1) := by decide +kernel
theorem dX6_minutesWithHired_79 : decode cX6_minutesWithHired 79 = .ok (.invokevirtual 159, 3) := by decide +kernel
theorem dX6_minutesWithHired_82 : decode cX6_minutesWithHired 82 = .ok (.goto 38, 3) := by decide +kernel
theorem dX6_minutesWithHired_85 : decode cX6_minutesWithHired 85 = .ok (.iload_n 3, 1) := by decide +kernel
theorem dX6_minutesWithHired_86 : decode cX6_minutesWithHired 86 = .ok (.aload_n 0, 1) := by decide +kernel
theorem dX6_minutesWithHired_87 : decode cX6_minutesWithHired 87 = .ok (.getfield 63, 3) := by decide +kernel
theorem dX6_minutesWithHired_90 : decode cX6_minutesWithHired 90 = .ok (.aload_n 0, 1) := by decide +kernel
theorem dX6_minutesWithHired_91 : decode cX6_minutesWithHired 91 = .ok (.getfield 19, 3) := by decide +kernel
theorem dX6_minutesWithHired_94 : decode cX6_minutesWithHired 94 = .ok (.iload 4, 2) := by decide +kernel
theorem dX6_minutesWithHired_96 : decode cX6_minutesWithHired 96 = .ok (.iload_n 1, 1) := by decide +kernel
theorem dX6_minutesWithHired_97 : decode cX6_minutesWithHired 97 = .ok (.invokevirtual 128, 3) := by decide +kernel
theorem dX6_minutesWithHired_100 : decode cX6_minutesWithHired 100 = .ok (.iadd, 1) := by decide +kernel
theorem dX6_minutesWithHired_101 : decode cX6_minutesWithHired 101 = .ok (.istore_n 3, 1) := by decide +kernel
theorem dX6_minutesWithHired_102 : decode cX6_minutesWithHired 102 = .ok (.aload_n 0, 1) := by decide +kernel
theorem dX6_minutesWithHired_103 : decode cX6_minutesWithHired 103 = .ok (.getfield 63, 3) := by decide +kernel
theorem dX6_minutesWithHired_106 : decode cX6_minutesWithHired 106 = .ok (.iload_n 1, 1) := by decide +kernel
theorem dX6_minutesWithHired_107 : decode cX6_minutesWithHired 107 = .ok (.aload_n 0, 1) := by decide +kernel
theorem dX6_minutesWithHired_108 : decode cX6_minutesWithHired 108 = .ok (.getfield 19, 3) := by decide +kernel
theorem dX6_minutesWithHired_111 : decode cX6_minutesWithHired 111 = .ok (.getfield 113, 3) := by decide +kernel
theorem dX6_minutesWithHired_114 : decode cX6_minutesWithHired 114 = .ok (.iload 4, 2) := by decide +kernel
theorem dX6_minutesWithHired_116 : decode cX6_minutesWithHired 116 = .ok (.iaload, 1) := by decide +kernel
theorem dX6_minutesWithHired_117 : decode cX6_minutesWithHired 117 = .ok (.invokevirtual 155, 3) := by decide +kernel
theorem dX6_minutesWithHired_120 : decode cX6_minutesWithHired 120 = .ok (.iinc 4 1, 3) := by decide +kernel
theorem dX6_minutesWithHired_123 : decode cX6_minutesWithHired 123 = .ok (.goto (-95), 3) := by decide +kernel
theorem dX6_minutesWithHired_126 : decode cX6_minutesWithHired 126 = .ok (.iload_n 3, 1) := by decide +kernel
theorem dX6_minutesWithHired_127 : decode cX6_minutesWithHired 127 = .ok (.ireturn, 1) := by decide +kernel
theorem dX6_goIn_0 : decode cX6_goIn 0 = .ok (.aload_n 0, 1) := by decide +kernel
theorem dX6_goIn_1 : decode cX6_goIn 1 = .ok (.getfield 19, 3) := by decide +kernel
theorem dX6_goIn_4 : decode cX6_goIn 4 = .ok (.iload_n 1, 1) := by decide +kernel
theorem dX6_goIn_5 : decode cX6_goIn 5 = .ok (.invokevirtual 125, 3) := by decide +kernel
theorem dX6_goIn_8 : decode cX6_goIn 8 = .ok (.ifCond .ne 5, 3) := by decide +kernel
theorem dX6_goIn_11 : decode cX6_goIn 11 = .ok (.iconst (-1), 1) := by decide +kernel
theorem dX6_goIn_12 : decode cX6_goIn 12 = .ok (.ireturn, 1) := by decide +kernel
theorem dX6_goIn_13 : decode cX6_goIn 13 = .ok (.aload_n 0, 1) := by decide +kernel
theorem dX6_goIn_14 : decode cX6_goIn 14 = .ok (.getfield 19, 3) := by decide +kernel
theorem dX6_goIn_17 : decode cX6_goIn 17 = .ok (.getfield 206, 3) := by decide +kernel
theorem dX6_goIn_20 : decode cX6_goIn 20 = .ok (.ifCond .ne 5, 3) := by decide +kernel
theorem dX6_goIn_23 : decode cX6_goIn 23 = .ok (.iconst 0, 1) := by decide +kernel
theorem dX6_goIn_24 : decode cX6_goIn 24 = .ok (.ireturn, 1) := by decide +kernel
theorem dX6_goIn_25 : decode cX6_goIn 25 = .ok (.aload_n 0, 1) := by decide +kernel
theorem dX6_goIn_26 : decode cX6_goIn 26 = .ok (.iload_n 1, 1) := by decide +kernel
theorem dX6_goIn_27 : decode cX6_goIn 27 = .ok (.invokevirtual 209, 3) := by decide +kernel
theorem dX6_goIn_30 : decode cX6_goIn 30 = .ok (.istore_n 2, 1) := by decide +kernel
theorem dX6_goIn_31 : decode cX6_goIn 31 = .ok (.iconst 0, 1) := by decide +kernel
theorem dX6_goIn_32 : decode cX6_goIn 32 = .ok (.istore_n 3, 1) := by decide +kernel
theorem dX6_goIn_33 : decode cX6_goIn 33 = .ok (.iload_n 3, 1) := by decide +kernel
theorem dX6_goIn_34 : decode cX6_goIn 34 = .ok (.sipush 200, 3) := by decide +kernel
theorem dX6_goIn_37 : decode cX6_goIn 37 = .ok (.if_icmp .gt 50, 3) := by decide +kernel
theorem dX6_goIn_40 : decode cX6_goIn 40 = .ok (.aload_n 0, 1) := by decide +kernel
theorem dX6_goIn_41 : decode cX6_goIn 41 = .ok (.getfield 29, 3) := by decide +kernel
theorem dX6_goIn_44 : decode cX6_goIn 44 = .ok (.getfield 99, 3) := by decide +kernel
theorem dX6_goIn_47 : decode cX6_goIn 47 = .ok (.getfield 142, 3) := by decide +kernel
theorem dX6_goIn_50 : decode cX6_goIn 50 = .ok (.iload_n 3, 1) := by decide +kernel
theorem dX6_goIn_51 : decode cX6_goIn 51 = .ok (.iadd, 1) := by decide +kernel
theorem dX6_goIn_52 : decode cX6_goIn 52 = .ok (.istore 4, 2) := by decide +kernel
theorem dX6_goIn_54 : decode cX6_goIn 54 = .ok (.aload_n 0, 1) := by decide +kernel
theorem dX6_goIn_55 : decode cX6_goIn 55 = .ok (.getfield 19, 3) := by decide +kernel
theorem dX6_goIn_58 : decode cX6_goIn 58 = .ok (.iload 4, 2) := by decide +kernel
theorem dX6_goIn_60 : decode cX6_goIn 60 = .ok (.invokevirtual 172, 3) := by decide +kernel
theorem dX6_goIn_63 : decode cX6_goIn 63 = .ok (.ifCond .eq 18, 3) := by decide +kernel
theorem dX6_goIn_66 : decode cX6_goIn 66 = .ok (.iload_n 2, 1) := by decide +kernel
theorem dX6_goIn_67 : decode cX6_goIn 67 = .ok (.aload_n 0, 1) := by decide +kernel
theorem dX6_goIn_68 : decode cX6_goIn 68 = .ok (.getfield 19, 3) := by decide +kernel
theorem dX6_goIn_71 : decode cX6_goIn 71 = .ok (.iload 4, 2) := by decide +kernel
theorem dX6_goIn_73 : decode cX6_goIn 73 = .ok (.invokevirtual 212, 3) := by decide +kernel
theorem dX6_goIn_76 : decode cX6_goIn 76 = .ok (.if_icmp .gt 5, 3) := by decide +kernel
theorem dX6_goIn_79 : decode cX6_goIn 79 = .ok (.iload_n 3, 1) := by decide +kernel
theorem dX6_goIn_80 : decode cX6_goIn 80 = .ok (.ireturn, 1) := by decide +kernel
theorem dX6_goIn_81 : decode cX6_goIn 81 = .ok (.iinc 3 1, 3) := by decide +kernel
theorem dX6_goIn_84 : decode cX6_goIn 84 = .ok (.goto (-51), 3) := by decide +kernel
theorem dX6_goIn_87 : decode cX6_goIn 87 = .ok (.bipush (-9), 2) := by decide +kernel
theorem dX6_goIn_89 : decode cX6_goIn 89 = .ok (.ireturn, 1) := by decide +kernel
theorem dX6_minutesThrough_0 : decode cX6_minutesThrough 0 = .ok (.aload_n 0, 1) := by decide +kernel
theorem dX6_minutesThrough_1 : decode cX6_minutesThrough 1 = .ok (.getfield 63, 3) := by decide +kernel
theorem dX6_minutesThrough_4 : decode cX6_minutesThrough 4 = .ok (.aload_n 0, 1) := by decide +kernel
theorem dX6_minutesThrough_5 : decode cX6_minutesThrough 5 = .ok (.getfield 29, 3) := by decide +kernel
theorem dX6_minutesThrough_8 : decode cX6_minutesThrough 8 = .ok (.getfield 99, 3) := by decide +kernel
theorem dX6_minutesThrough_11 : decode cX6_minutesThrough 11 = .ok (.invokevirtual 202, 3) := by decide +kernel
theorem dX6_minutesThrough_14 : decode cX6_minutesThrough 14 = .ok (.aload_n 0, 1) := by decide +kernel
theorem dX6_minutesThrough_15 : decode cX6_minutesThrough 15 = .ok (.getfield 63, 3) := by decide +kernel
theorem dX6_minutesThrough_18 : decode cX6_minutesThrough 18 = .ok (.iconst 0, 1) := by decide +kernel
theorem dX6_minutesThrough_19 : decode cX6_minutesThrough 19 = .ok (.putfield 142, 3) := by decide +kernel
theorem dX6_minutesThrough_22 : decode cX6_minutesThrough 22 = .ok (.aload_n 0, 1) := by decide +kernel
theorem dX6_minutesThrough_23 : decode cX6_minutesThrough 23 = .ok (.getfield 29, 3) := by decide +kernel
theorem dX6_minutesThrough_26 : decode cX6_minutesThrough 26 = .ok (.getfield 99, 3) := by decide +kernel
theorem dX6_minutesThrough_29 : decode cX6_minutesThrough 29 = .ok (.getfield 132, 3) := by decide +kernel
theorem dX6_minutesThrough_32 : decode cX6_minutesThrough 32 = .ok (.istore_n 2, 1) := by decide +kernel
theorem dX6_minutesThrough_33 : decode cX6_minutesThrough 33 = .ok (.iload_n 2, 1) := by decide +kernel
theorem dX6_minutesThrough_34 : decode cX6_minutesThrough 34 = .ok (.aload_n 0, 1) := by decide +kernel
theorem dX6_minutesThrough_35 : decode cX6_minutesThrough 35 = .ok (.getfield 19, 3) := by decide +kernel
theorem dX6_minutesThrough_38 : decode cX6_minutesThrough 38 = .ok (.getfield 135, 3) := by decide +kernel
theorem dX6_minutesThrough_41 : decode cX6_minutesThrough 41 = .ok (.if_icmp .ge 41, 3) := by decide +kernel
theorem dX6_minutesThrough_44 : decode cX6_minutesThrough 44 = .ok (.aload_n 0, 1) := by decide +kernel
theorem dX6_minutesThrough_45 : decode cX6_minutesThrough 45 = .ok (.getfield 63, 3) := by decide +kernel
theorem dX6_minutesThrough_48 : decode cX6_minutesThrough 48 = .ok (.aload_n 0, 1) := by decide +kernel
theorem dX6_minutesThrough_49 : decode cX6_minutesThrough 49 = .ok (.getfield 19, 3) := by decide +kernel
theorem dX6_minutesThrough_52 : decode cX6_minutesThrough 52 = .ok (.iload_n 1, 1) := by decide +kernel
theorem dX6_minutesThrough_53 : decode cX6_minutesThrough 53 = .ok (.aload_n 0, 1) := by decide +kernel
theorem dX6_minutesThrough_54 : decode cX6_minutesThrough 54 = .ok (.getfield 63, 3) := by decide +kernel
theorem dX6_minutesThrough_57 : decode cX6_minutesThrough 57 = .ok (.getfield 142, 3) := by decide +kernel
theorem dX6_minutesThrough_60 : decode cX6_minutesThrough 60 = .ok (.aload_n 0, 1) := by decide +kernel
theorem dX6_minutesThrough_61 : decode cX6_minutesThrough 61 = .ok (.getfield 63, 3) := by decide +kernel
theorem dX6_minutesThrough_64 : decode cX6_minutesThrough 64 = .ok (.aload_n 0, 1) := by decide +kernel
theorem dX6_minutesThrough_65 : decode cX6_minutesThrough 65 = .ok (.getfield 19, 3) := by decide +kernel
theorem dX6_minutesThrough_68 : decode cX6_minutesThrough 68 = .ok (.iload_n 1, 1) := by decide +kernel
theorem dX6_minutesThrough_69 : decode cX6_minutesThrough 69 = .ok (.invokevirtual 138, 3) := by decide +kernel
theorem dX6_minutesThrough_72 : decode cX6_minutesThrough 72 = .ok (.iadd, 1) := by decide +kernel
theorem dX6_minutesThrough_73 : decode cX6_minutesThrough 73 = .ok (.invokevirtual 148, 3) := by decide +kernel
theorem dX6_minutesThrough_76 : decode cX6_minutesThrough 76 = .ok (.iinc 2 1, 3) := by decide +kernel
theorem dX6_minutesThrough_79 : decode cX6_minutesThrough 79 = .ok (.goto (-46), 3) := by decide +kernel
theorem dX6_minutesThrough_82 : decode cX6_minutesThrough 82 = .ok (.aload_n 0, 1) := by decide +kernel
theorem dX6_minutesThrough_83 : decode cX6_minutesThrough 83 = .ok (.getfield 63, 3) := by decide +kernel
theorem dX6_minutesThrough_86 : decode cX6_minutesThrough 86 = .ok (.getfield 142, 3) := by decide +kernel
theorem dX6_minutesThrough_89 : decode cX6_minutesThrough 89 = .ok (.ireturn, 1) := by decide +kernel
theorem dX6_meets_0 : decode cX6_meets 0 = .ok (.aload_n 0, 1) := by decide +kernel
theorem dX6_meets_1 : decode cX6_meets 1 = .ok (.getfield 19, 3) := by decide +kernel
theorem dX6_meets_4 : decode cX6_meets 4 = .ok (.iload_n 1, 1) := by decide +kernel
theorem dX6_meets_5 : decode cX6_meets 5 = .ok (.invokevirtual 125, 3) := by decide +kernel
theorem dX6_meets_8 : decode cX6_meets 8 = .ok (.ifCond .eq 36, 3) := by decide +kernel
theorem dX6_meets_11 : decode cX6_meets 11 = .ok (.iload_n 2, 1) := by decide +kernel
theorem dX6_meets_12 : decode cX6_meets 12 = .ok (.ifCond .lt 32, 3) := by decide +kernel
theorem dX6_meets_15 : decode cX6_meets 15 = .ok (.iload_n 2, 1) := by decide +kernel
theorem dX6_meets_16 : decode cX6_meets 16 = .ok (.sipush 200, 3) := by decide +kernel
theorem dX6_meets_19 : decode cX6_meets 19 = .ok (.if_icmp .gt 25, 3) := by decide +kernel
theorem dX6_meets_22 : decode cX6_meets 22 = .ok (.iload_n 3, 1) := by decide +kernel
theorem dX6_meets_23 : decode cX6_meets 23 = .ok (.iconst 1, 1) := by decide +kernel
theorem dX6_meets_24 : decode cX6_meets 24 = .ok (.if_icmp .lt 20, 3) := by decide +kernel
theorem dX6_meets_27 : decode cX6_meets 27 = .ok (.iload_n 3, 1) := by decide +kernel
theorem dX6_meets_28 : decode cX6_meets 28 = .ok (.bipush 9, 2) := by decide +kernel
theorem dX6_meets_30 : decode cX6_meets 30 = .ok (.if_icmp .gt 14, 3) := by decide +kernel
theorem dX6_meets_33 : decode cX6_meets 33 = .ok (.iload 4, 2) := by decide +kernel
theorem dX6_meets_35 : decode cX6_meets 35 = .ok (.ifCond .lt 9, 3) := by decide +kernel
theorem dX6_meets_38 : decode cX6_meets 38 = .ok (.iload 4, 2) := by decide +kernel
theorem dX6_meets_40 : decode cX6_meets 40 = .ok (.iconst 1, 1) := by decide +kernel
theorem dX6_meets_41 : decode cX6_meets 41 = .ok (.if_icmp .le 5, 3) := by decide +kernel
theorem dX6_meets_44 : decode cX6_meets 44 = .ok (.iconst (-1), 1) := by decide +kernel
theorem dX6_meets_45 : decode cX6_meets 45 = .ok (.ireturn, 1) := by decide +kernel
theorem dX6_meets_46 : decode cX6_meets 46 = .ok (.aload_n 0, 1) := by decide +kernel
theorem dX6_meets_47 : decode cX6_meets 47 = .ok (.iload_n 1, 1) := by decide +kernel
theorem dX6_meets_48 : decode cX6_meets 48 = .ok (.iload_n 2, 1) := by decide +kernel
theorem dX6_meets_49 : decode cX6_meets 49 = .ok (.iload_n 3, 1) := by decide +kernel
theorem dX6_meets_50 : decode cX6_meets 50 = .ok (.invokevirtual 215, 3) := by decide +kernel
theorem dX6_meets_53 : decode cX6_meets 53 = .ok (.istore 5, 2) := by decide +kernel
theorem dX6_meets_55 : decode cX6_meets 55 = .ok (.iload 5, 2) := by decide +kernel
theorem dX6_meets_57 : decode cX6_meets 57 = .ok (.bipush (-9), 2) := by decide +kernel
theorem dX6_meets_59 : decode cX6_meets 59 = .ok (.if_icmp .eq 8, 3) := by decide +kernel
theorem dX6_meets_62 : decode cX6_meets 62 = .ok (.iload 4, 2) := by decide +kernel
theorem dX6_meets_64 : decode cX6_meets 64 = .ok (.ifCond .ne 6, 3) := by decide +kernel
theorem dX6_meets_67 : decode cX6_meets 67 = .ok (.iload 5, 2) := by decide +kernel
theorem dX6_meets_69 : decode cX6_meets 69 = .ok (.ireturn, 1) := by decide +kernel
theorem dX6_meets_70 : decode cX6_meets 70 = .ok (.aload_n 0, 1) := by decide +kernel
theorem dX6_meets_71 : decode cX6_meets 71 = .ok (.getfield 19, 3) := by decide +kernel
theorem dX6_meets_74 : decode cX6_meets 74 = .ok (.aload_n 0, 1) := by decide +kernel
theorem dX6_meets_75 : decode cX6_meets 75 = .ok (.getfield 29, 3) := by decide +kernel
theorem dX6_meets_78 : decode cX6_meets 78 = .ok (.getfield 99, 3) := by decide +kernel
theorem dX6_meets_81 : decode cX6_meets 81 = .ok (.getfield 132, 3) := by decide +kernel
theorem dX6_meets_84 : decode cX6_meets 84 = .ok (.iload 5, 2) := by decide +kernel
theorem dX6_meets_86 : decode cX6_meets 86 = .ok (.invokevirtual 175, 3) := by decide +kernel
theorem dX6_meets_89 : decode cX6_meets 89 = .ok (.istore 6, 2) := by decide +kernel
theorem dX6_meets_91 : decode cX6_meets 91 = .ok (.aload_n 0, 1) := by decide +kernel
theorem dX6_meets_92 : decode cX6_meets 92 = .ok (.getfield 19, 3) := by decide +kernel
theorem dX6_meets_95 : decode cX6_meets 95 = .ok (.iload 5, 2) := by decide +kernel
theorem dX6_meets_97 : decode cX6_meets 97 = .ok (.iconst 1, 1) := by decide +kernel
theorem dX6_meets_98 : decode cX6_meets 98 = .ok (.iadd, 1) := by decide +kernel
theorem dX6_meets_99 : decode cX6_meets 99 = .ok (.aload_n 0, 1) := by decide +kernel
theorem dX6_meets_100 : decode cX6_meets 100 = .ok (.getfield 19, 3) := by decide +kernel
theorem dX6_meets_103 : decode cX6_meets 103 = .ok (.getfield 135, 3) := by decide +kernel
theorem dX6_meets_106 : decode cX6_meets 106 = .ok (.invokevirtual 175, 3) := by decide +kernel
theorem dX6_meets_109 : decode cX6_meets 109 = .ok (.istore 7, 2) := by decide +kernel
theorem dX6_meets_111 : decode cX6_meets 111 = .ok (.iload 6, 2) := by decide +kernel
theorem dX6_meets_113 : decode cX6_meets 113 = .ok (.iload 7, 2) := by decide +kernel
theorem dX6_meets_115 : decode cX6_meets 115 = .ok (.if_icmp .ge 7, 3) := by decide +kernel
theorem dX6_meets_118 : decode cX6_meets 118 = .ok (.iconst 0, 1) := by decide +kernel
theorem dX6_meets_119 : decode cX6_meets 119 = .ok (.goto 4, 3) := by decide +kernel
theorem dX6_meets_122 : decode cX6_meets 122 = .ok (.iconst 1, 1) := by decide +kernel
theorem dX6_meets_123 : decode cX6_meets 123 = .ok (.ireturn, 1) := by decide +kernel
theorem dX6_meetingStretch_0 : decode cX6_meetingStretch 0 = .ok (.aload_n 0, 1) := by decide +kernel
theorem dX6_meetingStretch_1 : decode cX6_meetingStretch 1 = .ok (.getfield 63, 3) := by decide +kernel
theorem dX6_meetingStretch_4 : decode cX6_meetingStretch 4 = .ok (.aload_n 0, 1) := by decide +kernel
theorem dX6_meetingStretch_5 : decode cX6_meetingStretch 5 = .ok (.getfield 29, 3) := by decide +kernel
theorem dX6_meetingStretch_8 : decode cX6_meetingStretch 8 = .ok (.getfield 99, 3) := by decide +kernel
theorem dX6_meetingStretch_11 : decode cX6_meetingStretch 11 = .ok (.invokevirtual 202, 3) := by decide +kernel
theorem dX6_meetingStretch_14 : decode cX6_meetingStretch 14 = .ok (.aload_n 0, 1) := by decide +kernel
theorem dX6_meetingStretch_15 : decode cX6_meetingStretch 15 = .ok (.getfield 63, 3) := by decide +kernel
theorem dX6_meetingStretch_18 : decode cX6_meetingStretch 18 = .ok (.iconst 0, 1) := by decide +kernel
theorem dX6_meetingStretch_19 : decode cX6_meetingStretch 19 = .ok (.putfield 142, 3) := by decide +kernel
theorem dX6_meetingStretch_22 : decode cX6_meetingStretch 22 = .ok (.aload_n 0, 1) := by decide +kernel
theorem dX6_meetingStretch_23 : decode cX6_meetingStretch 23 = .ok (.getfield 29, 3) := by decide +kernel
theorem dX6_meetingStretch_26 : decode cX6_meetingStretch 26 = .ok (.getfield 99, 3) := by decide +kernel
theorem dX6_meetingStretch_29 : decode cX6_meetingStretch 29 = .ok (.getfield 132, 3) := by decide +kernel
theorem dX6_meetingStretch_32 : decode cX6_meetingStretch 32 = .ok (.istore 4, 2) := by decide +kernel
theorem dX6_meetingStretch_34 : decode cX6_meetingStretch 34 = .ok (.iload 4, 2) := by decide +kernel
theorem dX6_meetingStretch_36 : decode cX6_meetingStretch 36 = .ok (.aload_n 0, 1) := by decide +kernel
theorem dX6_meetingStretch_37 : decode cX6_meetingStretch 37 = .ok (.getfield 19, 3) := by decide +kernel
theorem dX6_meetingStretch_40 : decode cX6_meetingStretch 40 = .ok (.getfield 135, 3) := by decide +kernel
theorem dX6_meetingStretch_43 : decode cX6_meetingStretch 43 = .ok (.if_icmp .ge 107, 3) := by decide +kernel
theorem dX6_meetingStretch_46 : decode cX6_meetingStretch 46 = .ok (.aload_n 0, 1) := by decide +kernel
theorem dX6_meetingStretch_47 : decode cX6_meetingStretch 47 = .ok (.getfield 63, 3) := by decide +kernel
theorem dX6_meetingStretch_50 : decode cX6_meetingStretch 50 = .ok (.getfield 142, 3) := by decide +kernel
theorem dX6_meetingStretch_53 : decode cX6_meetingStretch 53 = .ok (.istore 5, 2) := by decide +kernel
theorem dX6_meetingStretch_55 : decode cX6_meetingStretch 55 = .ok (.iload 5, 2) := by decide +kernel
theorem dX6_meetingStretch_57 : decode cX6_meetingStretch 57 = .ok (.aload_n 0, 1) := by decide +kernel
theorem dX6_meetingStretch_58 : decode cX6_meetingStretch 58 = .ok (.getfield 63, 3) := by decide +kernel
theorem dX6_meetingStretch_61 : decode cX6_meetingStretch 61 = .ok (.aload_n 0, 1) := by decide +kernel
theorem dX6_meetingStretch_62 : decode cX6_meetingStretch 62 = .ok (.getfield 19, 3) := by decide +kernel
theorem dX6_meetingStretch_65 : decode cX6_meetingStretch 65 = .ok (.iload_n 1, 1) := by decide +kernel
theorem dX6_meetingStretch_66 : decode cX6_meetingStretch 66 = .ok (.invokevirtual 138, 3) := by decide +kernel
theorem dX6_meetingStretch_69 : decode cX6_meetingStretch 69 = .ok (.iadd, 1) := by decide +kernel
theorem dX6_meetingStretch_70 : decode cX6_meetingStretch 70 = .ok (.istore 6, 2) := by decide +kernel
theorem dX6_meetingStretch_72 : decode cX6_meetingStretch 72 = .ok (.aload_n 0, 1) := by decide +kernel
theorem dX6_meetingStretch_73 : decode cX6_meetingStretch 73 = .ok (.getfield 63, 3) := by decide +kernel
theorem dX6_meetingStretch_76 : decode cX6_meetingStretch 76 = .ok (.aload_n 0, 1) := by decide +kernel
theorem dX6_meetingStretch_77 : decode cX6_meetingStretch 77 = .ok (.getfield 19, 3) := by decide +kernel
theorem dX6_meetingStretch_80 : decode cX6_meetingStretch 80 = .ok (.iload_n 1, 1) := by decide +kernel
theorem dX6_meetingStretch_81 : decode cX6_meetingStretch 81 = .ok (.iload 6, 2) := by decide +kernel
theorem dX6_meetingStretch_83 : decode cX6_meetingStretch 83 = .ok (.invokevirtual 148, 3) := by decide +kernel
theorem dX6_meetingStretch_86 : decode cX6_meetingStretch 86 = .ok (.iload_n 2, 1) := by decide +kernel
theorem dX6_meetingStretch_87 : decode cX6_meetingStretch 87 = .ok (.iload_n 3, 1) := by decide +kernel
theorem dX6_meetingStretch_88 : decode cX6_meetingStretch 88 = .ok (.aload_n 0, 1) := by decide +kernel
theorem dX6_meetingStretch_89 : decode cX6_meetingStretch 89 = .ok (.getfield 19, 3) := by decide +kernel
theorem dX6_meetingStretch_92 : decode cX6_meetingStretch 92 = .ok (.iload 4, 2) := by decide +kernel
theorem dX6_meetingStretch_94 : decode cX6_meetingStretch 94 = .ok (.iconst 1, 1) := by decide +kernel
theorem dX6_meetingStretch_95 : decode cX6_meetingStretch 95 = .ok (.iadd, 1) := by decide +kernel
theorem dX6_meetingStretch_96 : decode cX6_meetingStretch 96 = .ok (.aload_n 0, 1) := by decide +kernel
theorem dX6_meetingStretch_97 : decode cX6_meetingStretch 97 = .ok (.getfield 19, 3) := by decide +kernel
theorem dX6_meetingStretch_100 : decode cX6_meetingStretch 100 = .ok (.getfield 135, 3) := by decide +kernel
theorem dX6_meetingStretch_103 : decode cX6_meetingStretch 103 = .ok (.invokevirtual 175, 3) := by decide +kernel
theorem dX6_meetingStretch_106 : decode cX6_meetingStretch 106 = .ok (.imul, 1) := by decide +kernel
theorem dX6_meetingStretch_107 : decode cX6_meetingStretch 107 = .ok (.iadd, 1) := by decide +kernel
theorem dX6_meetingStretch_108 : decode cX6_meetingStretch 108 = .ok (.istore 7, 2) := by decide +kernel
theorem dX6_meetingStretch_110 : decode cX6_meetingStretch 110 = .ok (.iload 7, 2) := by decide +kernel
theorem dX6_meetingStretch_112 : decode cX6_meetingStretch 112 = .ok (.iload_n 3, 1) := by decide +kernel
theorem dX6_meetingStretch_113 : decode cX6_meetingStretch 113 = .ok (.aload_n 0, 1) := by decide +kernel
theorem dX6_meetingStretch_114 : decode cX6_meetingStretch 114 = .ok (.getfield 19, 3) := by decide +kernel
theorem dX6_meetingStretch_117 : decode cX6_meetingStretch 117 = .ok (.getfield 113, 3) := by decide +kernel
theorem dX6_meetingStretch_120 : decode cX6_meetingStretch 120 = .ok (.iload 4, 2) := by decide +kernel
theorem dX6_meetingStretch_122 : decode cX6_meetingStretch 122 = .ok (.iaload, 1) := by decide +kernel
theorem dX6_meetingStretch_123 : decode cX6_meetingStretch 123 = .ok (.imul, 1) := by decide +kernel
theorem dX6_meetingStretch_124 : decode cX6_meetingStretch 124 = .ok (.iadd, 1) := by decide +kernel
theorem dX6_meetingStretch_125 : decode cX6_meetingStretch 125 = .ok (.istore 8, 2) := by decide +kernel
theorem dX6_meetingStretch_127 : decode cX6_meetingStretch 127 = .ok (.iload 5, 2) := by decide +kernel
theorem dX6_meetingStretch_129 : decode cX6_meetingStretch 129 = .ok (.iload 8, 2) := by decide +kernel
theorem dX6_meetingStretch_131 : decode cX6_meetingStretch 131 = .ok (.if_icmp .gt 13, 3) := by decide +kernel
theorem dX6_meetingStretch_134 : decode cX6_meetingStretch 134 = .ok (.iload 7, 2) := by decide +kernel
theorem dX6_meetingStretch_136 : decode cX6_meetingStretch 136 = .ok (.iload 6, 2) := by decide +kernel
theorem dX6_meetingStretch_138 : decode cX6_meetingStretch 138 = .ok (.if_icmp .gt 6, 3) := by decide +kernel
theorem dX6_meetingStretch_141 : decode cX6_meetingStretch 141 = .ok (.iload 4, 2) := by decide +kernel
theorem dX6_meetingStretch_143 : decode cX6_meetingStretch 143 = .ok (.ireturn, 1) := by decide +kernel
theorem dX6_meetingStretch_144 : decode cX6_meetingStretch 144 = .ok (.iinc 4 1, 3) := by decide +kernel
theorem dX6_meetingStretch_147 : decode cX6_meetingStretch 147 = .ok (.goto (-113), 3) := by decide +kernel
theorem dX6_meetingStretch_150 : decode cX6_meetingStretch 150 = .ok (.bipush (-9), 2) := by decide +kernel
theorem dX6_meetingStretch_152 : decode cX6_meetingStretch 152 = .ok (.ireturn, 1) := by decide +kernel
theorem dX6_odds_0 : decode cX6_odds 0 = .ok (.aload_n 0, 1) := by decide +kernel
theorem dX6_odds_1 : decode cX6_odds 1 = .ok (.getfield 19, 3) := by decide +kernel
theorem dX6_odds_4 : decode cX6_odds 4 = .ok (.iload_n 1, 1) := by decide +kernel
theorem dX6_odds_5 : decode cX6_odds 5 = .ok (.invokevirtual 125, 3) := by decide +kernel
theorem dX6_odds_8 : decode cX6_odds 8 = .ok (.ifCond .eq 35, 3) := by decide +kernel
theorem dX6_odds_11 : decode cX6_odds 11 = .ok (.iload_n 2, 1) := by decide +kernel
theorem dX6_odds_12 : decode cX6_odds 12 = .ok (.ifCond .lt 31, 3) := by decide +kernel
theorem dX6_odds_15 : decode cX6_odds 15 = .ok (.iload_n 2, 1) := by decide +kernel
theorem dX6_odds_16 : decode cX6_odds 16 = .ok (.bipush 10, 2) := by decide +kernel
theorem dX6_odds_18 : decode cX6_odds 18 = .ok (.if_icmp .gt 25, 3) := by decide +kernel
theorem dX6_odds_21 : decode cX6_odds 21 = .ok (.iload_n 3, 1) := by decide +kernel
theorem dX6_odds_22 : decode cX6_odds 22 = .ok (.ifCond .lt 21, 3) := by decide +kernel
theorem dX6_odds_25 : decode cX6_odds 25 = .ok (.iload_n 3, 1) := by decide +kernel
theorem dX6_odds_26 : decode cX6_odds 26 = .ok (.sipush 9999, 3) := by decide +kernel
theorem dX6_odds_29 : decode cX6_odds 29 = .ok (.if_icmp .gt 14, 3) := by decide +kernel
theorem dX6_odds_32 : decode cX6_odds 32 = .ok (.iload 4, 2) := by decide +kernel
theorem dX6_odds_34 : decode cX6_odds 34 = .ok (.ifCond .lt 9, 3) := by decide +kernel
theorem dX6_odds_37 : decode cX6_odds 37 = .ok (.iload 4, 2) := by decide +kernel
theorem dX6_odds_39 : decode cX6_odds 39 = .ok (.iconst 1, 1) := by decide +kernel
theorem dX6_odds_40 : decode cX6_odds 40 = .ok (.if_icmp .le 5, 3) := by decide +kernel
theorem dX6_odds_43 : decode cX6_odds 43 = .ok (.iconst (-1), 1) := by decide +kernel
theorem dX6_odds_44 : decode cX6_odds 44 = .ok (.ireturn, 1) := by decide +kernel
theorem dX6_odds_45 : decode cX6_odds 45 = .ok (.aload_n 0, 1) := by decide +kernel
theorem dX6_odds_46 : decode cX6_odds 46 = .ok (.iload_n 1, 1) := by decide +kernel
theorem dX6_odds_47 : decode cX6_odds 47 = .ok (.invokevirtual 209, 3) := by decide +kernel
theorem dX6_odds_50 : decode cX6_odds 50 = .ok (.istore 5, 2) := by decide +kernel
theorem dX6_odds_52 : decode cX6_odds 52 = .ok (.aload_n 0, 1) := by decide +kernel
theorem dX6_odds_53 : decode cX6_odds 53 = .ok (.getfield 19, 3) := by decide +kernel
theorem dX6_odds_56 : decode cX6_odds 56 = .ok (.aload_n 0, 1) := by decide +kernel
theorem dX6_odds_57 : decode cX6_odds 57 = .ok (.getfield 29, 3) := by decide +kernel
theorem dX6_odds_60 : decode cX6_odds 60 = .ok (.getfield 99, 3) := by decide +kernel
theorem dX6_odds_63 : decode cX6_odds 63 = .ok (.getfield 132, 3) := by decide +kernel
theorem dX6_odds_66 : decode cX6_odds 66 = .ok (.invokevirtual 219, 3) := by decide +kernel
theorem dX6_odds_69 : decode cX6_odds 69 = .ok (.istore 6, 2) := by decide +kernel
theorem dX6_odds_71 : decode cX6_odds 71 = .ok (.iconst 0, 1) := by decide +kernel
theorem dX6_odds_72 : decode cX6_odds 72 = .ok (.istore 7, 2) := by decide +kernel
theorem dX6_odds_74 : decode cX6_odds 74 = .ok (.iconst 1, 1) := by decide +kernel
theorem dX6_odds_75 : decode cX6_odds 75 = .ok (.istore 8, 2) := by decide +kernel
theorem dX6_odds_77 : decode cX6_odds 77 = .ok (.iconst 0, 1) := by decide +kernel
theorem dX6_odds_78 : decode cX6_odds 78 = .ok (.istore 9, 2) := by decide +kernel
theorem dX6_odds_80 : decode cX6_odds 80 = .ok (.iload 9, 2) := by decide +kernel
theorem dX6_odds_82 : decode cX6_odds 82 = .ok (.iload 6, 2) := by decide +kernel
theorem dX6_odds_84 : decode cX6_odds 84 = .ok (.if_icmp .gt 62, 3) := by decide +kernel
theorem dX6_odds_87 : decode cX6_odds 87 = .ok (.iload 5, 2) := by decide +kernel
theorem dX6_odds_89 : decode cX6_odds 89 = .ok (.iconst 5, 1) := by decide +kernel
theorem dX6_odds_90 : decode cX6_odds 90 = .ok (.iload 9, 2) := by decide +kernel
theorem dX6_odds_92 : decode cX6_odds 92 = .ok (.imul, 1) := by decide +kernel
theorem dX6_odds_93 : decode cX6_odds 93 = .ok (.iadd, 1) := by decide +kernel
theorem dX6_odds_94 : decode cX6_odds 94 = .ok (.iload_n 3, 1) := by decide +kernel
theorem dX6_odds_95 : decode cX6_odds 95 = .ok (.if_icmp .gt 30, 3) := by decide +kernel
theorem dX6_odds_98 : decode cX6_odds 98 = .ok (.iload 7, 2) := by decide +kernel
theorem dX6_odds_100 : decode cX6_odds 100 = .ok (.iload 8, 2) := by decide +kernel
theorem dX6_odds_102 : decode cX6_odds 102 = .ok (.iload_n 2, 1) := by decide +kernel
theorem dX6_odds_103 : decode cX6_odds 103 = .ok (.iload 9, 2) := by decide +kernel
theorem dX6_odds_105 : decode cX6_odds 105 = .ok (.invokestatic 222, 3) := by decide +kernel
theorem dX6_odds_108 : decode cX6_odds 108 = .ok (.imul, 1) := by decide +kernel
theorem dX6_odds_109 : decode cX6_odds 109 = .ok (.bipush 10, 2) := by decide +kernel
theorem dX6_odds_111 : decode cX6_odds 111 = .ok (.iload_n 2, 1) := by decide +kernel
theorem dX6_odds_112 : decode cX6_odds 112 = .ok (.isub, 1) := by decide +kernel
theorem dX6_odds_113 : decode cX6_odds 113 = .ok (.iload 6, 2) := by decide +kernel
theorem dX6_odds_115 : decode cX6_odds 115 = .ok (.iload 9, 2) := by decide +kernel
theorem dX6_odds_117 : decode cX6_odds 117 = .ok (.isub, 1) := by decide +kernel
theorem dX6_odds_118 : decode cX6_odds 118 = .ok (.invokestatic 222, 3) := by decide +kernel
theorem dX6_odds_121 : decode cX6_odds 121 = .ok (.imul, 1) := by decide +kernel
theorem dX6_odds_122 : decode cX6_odds 122 = .ok (.iadd, 1) := by decide +kernel
theorem dX6_odds_123 : decode cX6_odds 123 = .ok (.istore 7, 2) := by decide +kernel
theorem dX6_odds_125 : decode cX6_odds 125 = .ok (.iload 8, 2) := by decide +kernel
theorem dX6_odds_127 : decode cX6_odds 127 = .ok (.iload 6, 2) := by decide +kernel
theorem dX6_odds_129 : decode cX6_odds 129 = .ok (.iload 9, 2) := by decide +kernel
theorem dX6_odds_131 : decode cX6_odds 131 = .ok (.isub, 1) := by decide +kernel
theorem dX6_odds_132 : decode cX6_odds 132 = .ok (.imul, 1) := by decide +kernel
theorem dX6_odds_133 : decode cX6_odds 133 = .ok (.iload 9, 2) := by decide +kernel
theorem dX6_odds_135 : decode cX6_odds 135 = .ok (.iconst 1, 1) := by decide +kernel
theorem dX6_odds_136 : decode cX6_odds 136 = .ok (.iadd, 1) := by decide +kernel
theorem dX6_odds_137 : decode cX6_odds 137 = .ok (.idiv, 1) := by decide +kernel
theorem dX6_odds_138 : decode cX6_odds 138 = .ok (.istore 8, 2) := by decide +kernel
theorem dX6_odds_140 : decode cX6_odds 140 = .ok (.iinc 9 1, 3) := by decide +kernel
theorem dX6_odds_143 : decode cX6_odds 143 = .ok (.goto (-63), 3) := by decide +kernel
theorem dX6_odds_146 : decode cX6_odds 146 = .ok (.bipush 10, 2) := by decide +kernel
theorem dX6_odds_148 : decode cX6_odds 148 = .ok (.iload 6, 2) := by decide +kernel
theorem dX6_odds_150 : decode cX6_odds 150 = .ok (.invokestatic 222, 3) := by decide +kernel
theorem dX6_odds_153 : decode cX6_odds 153 = .ok (.istore 9, 2) := by decide +kernel
theorem dX6_odds_155 : decode cX6_odds 155 = .ok (.iload 7, 2) := by decide +kernel
theorem dX6_odds_157 : decode cX6_odds 157 = .ok (.iload 9, 2) := by decide +kernel
theorem dX6_odds_159 : decode cX6_odds 159 = .ok (.invokestatic 225, 3) := by decide +kernel
theorem dX6_odds_162 : decode cX6_odds 162 = .ok (.istore 10, 2) := by decide +kernel
theorem dX6_odds_164 : decode cX6_odds 164 = .ok (.iload 4, 2) := by decide +kernel
theorem dX6_odds_166 : decode cX6_odds 166 = .ok (.ifCond .ne 8, 3) := by decide +kernel
theorem dX6_odds_169 : decode cX6_odds 169 = .ok (.iload 7, 2) := by decide +kernel
theorem dX6_odds_171 : decode cX6_odds 171 = .ok (.goto 5, 3) := by decide +kernel
theorem dX6_odds_174 : decode cX6_odds 174 = .ok (.iload 9, 2) := by decide +kernel
theorem dX6_odds_176 : decode cX6_odds 176 = .ok (.iload 10, 2) := by decide +kernel
theorem dX6_odds_178 : decode cX6_odds 178 = .ok (.idiv, 1) := by decide +kernel
theorem dX6_odds_179 : decode cX6_odds 179 = .ok (.ireturn, 1) := by decide +kernel
theorem dX6_power_0 : decode cX6_power 0 = .ok (.iconst 1, 1) := by decide +kernel
theorem dX6_power_1 : decode cX6_power 1 = .ok (.istore_n 2, 1) := by decide +kernel
theorem dX6_power_2 : decode cX6_power 2 = .ok (.iconst 0, 1) := by decide +kernel
theorem dX6_power_3 : decode cX6_power 3 = .ok (.istore_n 3, 1) := by decide +kernel
theorem dX6_power_4 : decode cX6_power 4 = .ok (.iload_n 3, 1) := by decide +kernel
theorem dX6_power_5 : decode cX6_power 5 = .ok (.iload_n 1, 1) := by decide +kernel
theorem dX6_power_6 : decode cX6_power 6 = .ok (.if_icmp .ge 13, 3) := by decide +kernel
theorem dX6_power_9 : decode cX6_power 9 = .ok (.iload_n 2, 1) := by decide +kernel
theorem dX6_power_10 : decode cX6_power 10 = .ok (.iload_n 0, 1) := by decide +kernel
theorem dX6_power_11 : decode cX6_power 11 = .ok (.imul, 1) := by decide +kernel
theorem dX6_power_12 : decode cX6_power 12 = .ok (.istore_n 2, 1) := by decide +kernel
theorem dX6_power_13 : decode cX6_power 13 = .ok (.iinc 3 1, 3) := by decide +kernel
theorem dX6_power_16 : decode cX6_power 16 = .ok (.goto (-12), 3) := by decide +kernel
theorem dX6_power_19 : decode cX6_power 19 = .ok (.iload_n 2, 1) := by decide +kernel
theorem dX6_power_20 : decode cX6_power 20 = .ok (.ireturn, 1) := by decide +kernel
theorem dX6_commonDivisor_0 : decode cX6_commonDivisor 0 = .ok (.iload_n 0, 1) := by decide +kernel
theorem dX6_commonDivisor_1 : decode cX6_commonDivisor 1 = .ok (.istore_n 2, 1) := by decide +kernel
theorem dX6_commonDivisor_2 : decode cX6_commonDivisor 2 = .ok (.iload_n 1, 1) := by decide +kernel
theorem dX6_commonDivisor_3 : decode cX6_commonDivisor 3 = .ok (.istore_n 3, 1) := by decide +kernel
theorem dX6_commonDivisor_4 : decode cX6_commonDivisor 4 = .ok (.iconst 0, 1) := by decide +kernel
theorem dX6_commonDivisor_5 : decode cX6_commonDivisor 5 = .ok (.istore 4, 2) := by decide +kernel
theorem dX6_commonDivisor_7 : decode cX6_commonDivisor 7 = .ok (.iload 4, 2) := by decide +kernel
theorem dX6_commonDivisor_9 : decode cX6_commonDivisor 9 = .ok (.bipush 64, 2) := by decide +kernel
theorem dX6_commonDivisor_11 : decode cX6_commonDivisor 11 = .ok (.if_icmp .ge 23, 3) := by decide +kernel
theorem dX6_commonDivisor_14 : decode cX6_commonDivisor 14 = .ok (.iload_n 3, 1) := by decide +kernel
theorem dX6_commonDivisor_15 : decode cX6_commonDivisor 15 = .ok (.ifCond .eq 19, 3) := by decide +kernel
theorem dX6_commonDivisor_18 : decode cX6_commonDivisor 18 = .ok (.iload_n 2, 1) := by decide +kernel
theorem dX6_commonDivisor_19 : decode cX6_commonDivisor 19 = .ok (.iload_n 3, 1) := by decide +kernel
theorem dX6_commonDivisor_20 : decode cX6_commonDivisor 20 = .ok (.irem, 1) := by decide +kernel
theorem dX6_commonDivisor_21 : decode cX6_commonDivisor 21 = .ok (.istore 5, 2) := by decide +kernel
theorem dX6_commonDivisor_23 : decode cX6_commonDivisor 23 = .ok (.iload_n 3, 1) := by decide +kernel
theorem dX6_commonDivisor_24 : decode cX6_commonDivisor 24 = .ok (.istore_n 2, 1) := by decide +kernel
theorem dX6_commonDivisor_25 : decode cX6_commonDivisor 25 = .ok (.iload 5, 2) := by decide +kernel
theorem dX6_commonDivisor_27 : decode cX6_commonDivisor 27 = .ok (.istore_n 3, 1) := by decide +kernel
theorem dX6_commonDivisor_28 : decode cX6_commonDivisor 28 = .ok (.iinc 4 1, 3) := by decide +kernel
theorem dX6_commonDivisor_31 : decode cX6_commonDivisor 31 = .ok (.goto (-24), 3) := by decide +kernel
theorem dX6_commonDivisor_34 : decode cX6_commonDivisor 34 = .ok (.iload_n 2, 1) := by decide +kernel
theorem dX6_commonDivisor_35 : decode cX6_commonDivisor 35 = .ok (.iconst 1, 1) := by decide +kernel
theorem dX6_commonDivisor_36 : decode cX6_commonDivisor 36 = .ok (.invokestatic 228, 3) := by decide +kernel
theorem dX6_commonDivisor_39 : decode cX6_commonDivisor 39 = .ok (.ireturn, 1) := by decide +kernel
theorem dX6_saw_0 : decode cX6_saw 0 = .ok (.aload_n 0, 1) := by decide +kernel
theorem dX6_saw_1 : decode cX6_saw 1 = .ok (.getfield 19, 3) := by decide +kernel
theorem dX6_saw_4 : decode cX6_saw 4 = .ok (.iload_n 1, 1) := by decide +kernel
theorem dX6_saw_5 : decode cX6_saw 5 = .ok (.invokevirtual 109, 3) := by decide +kernel
theorem dX6_saw_8 : decode cX6_saw 8 = .ok (.ifCond .eq 26, 3) := by decide +kernel
theorem dX6_saw_11 : decode cX6_saw 11 = .ok (.aload_n 0, 1) := by decide +kernel
theorem dX6_saw_12 : decode cX6_saw 12 = .ok (.getfield 19, 3) := by decide +kernel
theorem dX6_saw_15 : decode cX6_saw 15 = .ok (.getfield 122, 3) := by decide +kernel
theorem dX6_saw_18 : decode cX6_saw 18 = .ok (.iload_n 1, 1) := by decide +kernel
theorem dX6_saw_19 : decode cX6_saw 19 = .ok (.iaload, 1) := by decide +kernel
theorem dX6_saw_20 : decode cX6_saw 20 = .ok (.ifCond .eq 14, 3) := by decide +kernel
theorem dX6_saw_23 : decode cX6_saw 23 = .ok (.iload_n 2, 1) := by decide +kernel
theorem dX6_saw_24 : decode cX6_saw 24 = .ok (.ifCond .lt 10, 3) := by decide +kernel
theorem dX6_saw_27 : decode cX6_saw 27 = .ok (.iload_n 2, 1) := by decide +kernel
theorem dX6_saw_28 : decode cX6_saw 28 = .ok (.sipush 9999, 3) := by decide +kernel
theorem dX6_saw_31 : decode cX6_saw 31 = .ok (.if_icmp .le 5, 3) := by decide +kernel
theorem dX6_saw_34 : decode cX6_saw 34 = .ok (.iconst (-1), 1) := by decide +kernel
theorem dX6_saw_35 : decode cX6_saw 35 = .ok (.ireturn, 1) := by decide +kernel
theorem dX6_saw_36 : decode cX6_saw 36 = .ok (.aload_n 0, 1) := by decide +kernel
theorem dX6_saw_37 : decode cX6_saw 37 = .ok (.getfield 44, 3) := by decide +kernel
theorem dX6_saw_40 : decode cX6_saw 40 = .ok (.getfield 82, 3) := by decide +kernel
theorem dX6_saw_43 : decode cX6_saw 43 = .ok (.bipush 6, 2) := by decide +kernel
theorem dX6_saw_45 : decode cX6_saw 45 = .ok (.if_icmp .lt 6, 3) := by decide +kernel
theorem dX6_saw_48 : decode cX6_saw 48 = .ok (.bipush (-3), 2) := by decide +kernel
theorem dX6_saw_50 : decode cX6_saw 50 = .ok (.ireturn, 1) := by decide +kernel
theorem dX6_saw_51 : decode cX6_saw 51 = .ok (.aload_n 0, 1) := by decide +kernel
theorem dX6_saw_52 : decode cX6_saw 52 = .ok (.getfield 44, 3) := by decide +kernel
theorem dX6_saw_55 : decode cX6_saw 55 = .ok (.iload_n 1, 1) := by decide +kernel
theorem dX6_saw_56 : decode cX6_saw 56 = .ok (.iload_n 2, 1) := by decide +kernel
theorem dX6_saw_57 : decode cX6_saw 57 = .ok (.invokevirtual 233, 3) := by decide +kernel
theorem dX6_saw_60 : decode cX6_saw 60 = .ok (.aload_n 0, 1) := by decide +kernel
theorem dX6_saw_61 : decode cX6_saw 61 = .ok (.getfield 44, 3) := by decide +kernel
theorem dX6_saw_64 : decode cX6_saw 64 = .ok (.getfield 82, 3) := by decide +kernel
theorem dX6_saw_67 : decode cX6_saw 67 = .ok (.ireturn, 1) := by decide +kernel
theorem dX6_forget_0 : decode cX6_forget 0 = .ok (.aload_n 0, 1) := by decide +kernel
theorem dX6_forget_1 : decode cX6_forget 1 = .ok (.getfield 44, 3) := by decide +kernel
theorem dX6_forget_4 : decode cX6_forget 4 = .ok (.getfield 82, 3) := by decide +kernel
theorem dX6_forget_7 : decode cX6_forget 7 = .ok (.istore_n 1, 1) := by decide +kernel
theorem dX6_forget_8 : decode cX6_forget 8 = .ok (.aload_n 0, 1) := by decide +kernel
theorem dX6_forget_9 : decode cX6_forget 9 = .ok (.getfield 44, 3) := by decide +kernel
theorem dX6_forget_12 : decode cX6_forget 12 = .ok (.iconst 0, 1) := by decide +kernel
theorem dX6_forget_13 : decode cX6_forget 13 = .ok (.putfield 82, 3) := by decide +kernel
theorem dX6_forget_16 : decode cX6_forget 16 = .ok (.aload_n 0, 1) := by decide +kernel
theorem dX6_forget_17 : decode cX6_forget 17 = .ok (.getfield 44, 3) := by decide +kernel
theorem dX6_forget_20 : decode cX6_forget 20 = .ok (.iconst 0, 1) := by decide +kernel
theorem dX6_forget_21 : decode cX6_forget 21 = .ok (.putfield 83, 3) := by decide +kernel
theorem dX6_forget_24 : decode cX6_forget 24 = .ok (.iload_n 1, 1) := by decide +kernel
theorem dX6_forget_25 : decode cX6_forget 25 = .ok (.ireturn, 1) := by decide +kernel
theorem dX6_fits_0 : decode cX6_fits 0 = .ok (.iload_n 1, 1) := by decide +kernel
theorem dX6_fits_1 : decode cX6_fits 1 = .ok (.iconst (-1), 1) := by decide +kernel
theorem dX6_fits_2 : decode cX6_fits 2 = .ok (.if_icmp .eq 16, 3) := by decide +kernel
theorem dX6_fits_5 : decode cX6_fits 5 = .ok (.aload_n 0, 1) := by decide +kernel
theorem dX6_fits_6 : decode cX6_fits 6 = .ok (.getfield 19, 3) := by decide +kernel
theorem dX6_fits_9 : decode cX6_fits 9 = .ok (.iload_n 1, 1) := by decide +kernel
theorem dX6_fits_10 : decode cX6_fits 10 = .ok (.invokevirtual 109, 3) := by decide +kernel
theorem dX6_fits_13 : decode cX6_fits 13 = .ok (.ifCond .ne 5, 3) := by decide +kernel
theorem dX6_fits_16 : decode cX6_fits 16 = .ok (.iconst (-1), 1) := by decide +kernel
theorem dX6_fits_17 : decode cX6_fits 17 = .ok (.ireturn, 1) := by decide +kernel
theorem dX6_fits_18 : decode cX6_fits 18 = .ok (.aload_n 0, 1) := by decide +kernel
theorem dX6_fits_19 : decode cX6_fits 19 = .ok (.getfield 44, 3) := by decide +kernel
theorem dX6_fits_22 : decode cX6_fits 22 = .ok (.aload_n 0, 1) := by decide +kernel
theorem dX6_fits_23 : decode cX6_fits 23 = .ok (.getfield 19, 3) := by decide +kernel
theorem dX6_fits_26 : decode cX6_fits 26 = .ok (.invokevirtual 236, 3) := by decide +kernel
theorem dX6_fits_29 : decode cX6_fits 29 = .ok (.iload_n 1, 1) := by decide +kernel
theorem dX6_fits_30 : decode cX6_fits 30 = .ok (.iconst (-1), 1) := by decide +kernel
theorem dX6_fits_31 : decode cX6_fits 31 = .ok (.if_icmp .ne 11, 3) := by decide +kernel
theorem dX6_fits_34 : decode cX6_fits 34 = .ok (.aload_n 0, 1) := by decide +kernel
theorem dX6_fits_35 : decode cX6_fits 35 = .ok (.getfield 44, 3) := by decide +kernel
theorem dX6_fits_38 : decode cX6_fits 38 = .ok (.getfield 240, 3) := by decide +kernel
theorem dX6_fits_41 : decode cX6_fits 41 = .ok (.ireturn, 1) := by decide +kernel
theorem dX6_fits_42 : decode cX6_fits 42 = .ok (.aload_n 0, 1) := by decide +kernel
theorem dX6_fits_43 : decode cX6_fits 43 = .ok (.getfield 44, 3) := by decide +kernel
theorem dX6_fits_46 : decode cX6_fits 46 = .ok (.getfield 240, 3) := by decide +kernel
theorem dX6_fits_49 : decode cX6_fits 49 = .ok (.ifCond .ne 8, 3) := by decide +kernel
theorem dX6_fits_52 : decode cX6_fits 52 = .ok (.bipush (-9), 2) := by decide +kernel
theorem dX6_fits_54 : decode cX6_fits 54 = .ok (.goto 12, 3) := by decide +kernel
theorem dX6_fits_57 : decode cX6_fits 57 = .ok (.aload_n 0, 1) := by decide +kernel
theorem dX6_fits_58 : decode cX6_fits 58 = .ok (.getfield 44, 3) := by decide +kernel
theorem dX6_fits_61 : decode cX6_fits 61 = .ok (.getfield 243, 3) := by decide +kernel
theorem dX6_fits_64 : decode cX6_fits 64 = .ok (.iload_n 1, 1) := by decide +kernel
theorem dX6_fits_65 : decode cX6_fits 65 = .ok (.iaload, 1) := by decide +kernel
theorem dX6_fits_66 : decode cX6_fits 66 = .ok (.ireturn, 1) := by decide +kernel
theorem dX6_surely_0 : decode cX6_surely 0 = .ok (.aload_n 0, 1) := by decide +kernel
theorem dX6_surely_1 : decode cX6_surely 1 = .ok (.getfield 19, 3) := by decide +kernel
theorem dX6_surely_4 : decode cX6_surely 4 = .ok (.iload_n 1, 1) := by decide +kernel
theorem dX6_surely_5 : decode cX6_surely 5 = .ok (.invokevirtual 109, 3) := by decide +kernel
theorem dX6_surely_8 : decode cX6_surely 8 = .ok (.ifCond .ne 5, 3) := by decide +kernel
theorem dX6_surely_11 : decode cX6_surely 11 = .ok (.iconst (-1), 1) := by decide +kernel
theorem dX6_surely_12 : decode cX6_surely 12 = .ok (.ireturn, 1) := by decide +kernel
theorem dX6_surely_13 : decode cX6_surely 13 = .ok (.aload_n 0, 1) := by decide +kernel
theorem dX6_surely_14 : decode cX6_surely 14 = .ok (.getfield 44, 3) := by decide +kernel
theorem dX6_surely_17 : decode cX6_surely 17 = .ok (.aload_n 0, 1) := by decide +kernel
theorem dX6_surely_18 : decode cX6_surely 18 = .ok (.getfield 19, 3) := by decide +kernel
theorem dX6_surely_21 : decode cX6_surely 21 = .ok (.invokevirtual 236, 3) := by decide +kernel
theorem dX6_surely_24 : decode cX6_surely 24 = .ok (.aload_n 0, 1) := by decide +kernel
theorem dX6_surely_25 : decode cX6_surely 25 = .ok (.getfield 44, 3) := by decide +kernel
theorem dX6_surely_28 : decode cX6_surely 28 = .ok (.getfield 240, 3) := by decide +kernel
theorem dX6_surely_31 : decode cX6_surely 31 = .ok (.ifCond .ne 7, 3) := by decide +kernel
theorem dX6_surely_34 : decode cX6_surely 34 = .ok (.iconst 0, 1) := by decide +kernel
theorem dX6_surely_35 : decode cX6_surely 35 = .ok (.goto 12, 3) := by decide +kernel
theorem dX6_surely_38 : decode cX6_surely 38 = .ok (.aload_n 0, 1) := by decide +kernel
theorem dX6_surely_39 : decode cX6_surely 39 = .ok (.getfield 44, 3) := by decide +kernel
theorem dX6_surely_42 : decode cX6_surely 42 = .ok (.getfield 246, 3) := by decide +kernel
theorem dX6_surely_45 : decode cX6_surely 45 = .ok (.iload_n 1, 1) := by decide +kernel
theorem dX6_surely_46 : decode cX6_surely 46 = .ok (.iaload, 1) := by decide +kernel
theorem dX6_surely_47 : decode cX6_surely 47 = .ok (.ireturn, 1) := by decide +kernel
theorem dX6_mark_0 : decode cX6_mark 0 = .ok (.aload_n 0, 1) := by decide +kernel
theorem dX6_mark_1 : decode cX6_mark 1 = .ok (.getfield 19, 3) := by decide +kernel
theorem dX6_mark_4 : decode cX6_mark 4 = .ok (.iload_n 2, 1) := by decide +kernel
theorem dX6_mark_5 : decode cX6_mark 5 = .ok (.invokevirtual 109, 3) := by decide +kernel
theorem dX6_mark_8 : decode cX6_mark 8 = .ok (.ifCond .ne 6, 3) := by decide +kernel
theorem dX6_mark_11 : decode cX6_mark 11 = .ok (.ldc 249, 2) := by decide +kernel
theorem dX6_mark_13 : decode cX6_mark 13 = .ok (.ireturn, 1) := by decide +kernel
theorem dX6_mark_14 : decode cX6_mark 14 = .ok (.iload_n 1, 1) := by decide +kernel
theorem dX6_mark_15 : decode cX6_mark 15 = .ok (.tableswitch 73 0 5 #[37, 43, 49, 55, 61, 67], 37) := by decide +kernel
theorem dX6_mark_52 : decode cX6_mark 52 = .ok (.aload_n 0, 1) := by decide +kernel
theorem dX6_mark_53 : decode cX6_mark 53 = .ok (.iload_n 2, 1) := by decide +kernel
theorem dX6_mark_54 : decode cX6_mark 54 = .ok (.invokevirtual 250, 3) := by decide +kernel
theorem dX6_mark_57 : decode cX6_mark 57 = .ok (.ireturn, 1) := by decide +kernel
theorem dX6_mark_58 : decode cX6_mark 58 = .ok (.aload_n 0, 1) := by decide +kernel
theorem dX6_mark_59 : decode cX6_mark 59 = .ok (.iload_n 2, 1) := by decide +kernel
theorem dX6_mark_60 : decode cX6_mark 60 = .ok (.invokevirtual 253, 3) := by decide +kernel
theorem dX6_mark_63 : decode cX6_mark 63 = .ok (.ireturn, 1) := by decide +kernel
theorem dX6_mark_64 : decode cX6_mark 64 = .ok (.aload_n 0, 1) := by decide +kernel
theorem dX6_mark_65 : decode cX6_mark 65 = .ok (.iload_n 2, 1) := by decide +kernel
theorem dX6_mark_66 : decode cX6_mark 66 = .ok (.invokevirtual 256, 3) := by decide +kernel
theorem dX6_mark_69 : decode cX6_mark 69 = .ok (.ireturn, 1) := by decide +kernel
theorem dX6_mark_70 : decode cX6_mark 70 = .ok (.aload_n 0, 1) := by decide +kernel
theorem dX6_mark_71 : decode cX6_mark 71 = .ok (.iload_n 2, 1) := by decide +kernel
theorem dX6_mark_72 : decode cX6_mark 72 = .ok (.invokevirtual 259, 3) := by decide +kernel
theorem dX6_mark_75 : decode cX6_mark 75 = .ok (.ireturn, 1) := by decide +kernel
theorem dX6_mark_76 : decode cX6_mark 76 = .ok (.aload_n 0, 1) := by decide +kernel
theorem dX6_mark_77 : decode cX6_mark 77 = .ok (.iload_n 2, 1) := by decide +kernel
theorem dX6_mark_78 : decode cX6_mark 78 = .ok (.invokevirtual 262, 3) := by decide +kernel
theorem dX6_mark_81 : decode cX6_mark 81 = .ok (.ireturn, 1) := by decide +kernel
theorem dX6_mark_82 : decode cX6_mark 82 = .ok (.aload_n 0, 1) := by decide +kernel
theorem dX6_mark_83 : decode cX6_mark 83 = .ok (.iload_n 2, 1) := by decide +kernel
theorem dX6_mark_84 : decode cX6_mark 84 = .ok (.invokevirtual 265, 3) := by decide +kernel
theorem dX6_mark_87 : decode cX6_mark 87 = .ok (.ireturn, 1) := by decide +kernel
theorem dX6_mark_88 : decode cX6_mark 88 = .ok (.ldc 249, 2) := by decide +kernel
theorem dX6_mark_90 : decode cX6_mark 90 = .ok (.ireturn, 1) := by decide +kernel
theorem dX6_asStep_0 : decode cX6_asStep 0 = .ok (.aload_n 0, 1) := by decide +kernel
theorem dX6_asStep_1 : decode cX6_asStep 1 = .ok (.dup, 1) := by decide +kernel
theorem dX6_asStep_2 : decode cX6_asStep 2 = .ok (.getfield 268, 3) := by decide +kernel
theorem dX6_asStep_5 : decode cX6_asStep 5 = .ok (.lconst 1, 1) := by decide +kernel
theorem dX6_asStep_6 : decode cX6_asStep 6 = .ok (.ladd, 1) := by decide +kernel
theorem dX6_asStep_7 : decode cX6_asStep 7 = .ok (.putfield 268, 3) := by decide +kernel
theorem dX6_asStep_10 : decode cX6_asStep 10 = .ok (.aload_n 0, 1) := by decide +kernel
theorem dX6_asStep_11 : decode cX6_asStep 11 = .ok (.getfield 19, 3) := by decide +kernel
theorem dX6_asStep_14 : decode cX6_asStep 14 = .ok (.getfield 113, 3) := by decide +kernel
theorem dX6_asStep_17 : decode cX6_asStep 17 = .ok (.iload_n 1, 1) := by decide +kernel
theorem dX6_asStep_18 : decode cX6_asStep 18 = .ok (.iaload, 1) := by decide +kernel
theorem dX6_asStep_19 : decode cX6_asStep 19 = .ok (.ireturn, 1) := by decide +kernel
theorem dX6_asFirm_0 : decode cX6_asFirm 0 = .ok (.aload_n 0, 1) := by decide +kernel
theorem dX6_asFirm_1 : decode cX6_asFirm 1 = .ok (.dup, 1) := by decide +kernel
theorem dX6_asFirm_2 : decode cX6_asFirm 2 = .ok (.getfield 268, 3) := by decide +kernel
theorem dX6_asFirm_5 : decode cX6_asFirm 5 = .ok (.ldc2_w 272, 3) := by decide +kernel
theorem dX6_asFirm_8 : decode cX6_asFirm 8 = .ok (.ladd, 1) := by decide +kernel
theorem dX6_asFirm_9 : decode cX6_asFirm 9 = .ok (.putfield 268, 3) := by decide +kernel
theorem dX6_asFirm_12 : decode cX6_asFirm 12 = .ok (.aload_n 0, 1) := by decide +kernel
theorem dX6_asFirm_13 : decode cX6_asFirm 13 = .ok (.iload_n 1, 1) := by decide +kernel
theorem dX6_asFirm_14 : decode cX6_asFirm 14 = .ok (.invokevirtual 250, 3) := by decide +kernel
theorem dX6_asFirm_17 : decode cX6_asFirm 17 = .ok (.aload_n 0, 1) := by decide +kernel
theorem dX6_asFirm_18 : decode cX6_asFirm 18 = .ok (.getfield 19, 3) := by decide +kernel
theorem dX6_asFirm_21 : decode cX6_asFirm 21 = .ok (.getfield 116, 3) := by decide +kernel
theorem dX6_asFirm_24 : decode cX6_asFirm 24 = .ok (.iload_n 1, 1) := by decide +kernel
theorem dX6_asFirm_25 : decode cX6_asFirm 25 = .ok (.iaload, 1) := by decide +kernel
theorem dX6_asFirm_26 : decode cX6_asFirm 26 = .ok (.iadd, 1) := by decide +kernel
theorem dX6_asFirm_27 : decode cX6_asFirm 27 = .ok (.ireturn, 1) := by decide +kernel
theorem dX6_asSlimy_0 : decode cX6_asSlimy 0 = .ok (.aload_n 0, 1) := by decide +kernel
theorem dX6_asSlimy_1 : decode cX6_asSlimy 1 = .ok (.dup, 1) := by decide +kernel
theorem dX6_asSlimy_2 : decode cX6_asSlimy 2 = .ok (.getfield 268, 3) := by decide +kernel
theorem dX6_asSlimy_5 : decode cX6_asSlimy 5 = .ok (.ldc2_w 274, 3) := by decide +kernel
theorem dX6_asSlimy_8 : decode cX6_asSlimy 8 = .ok (.ladd, 1) := by decide +kernel
theorem dX6_asSlimy_9 : decode cX6_asSlimy 9 = .ok (.putfield 268, 3) := by decide +kernel
theorem dX6_asSlimy_12 : decode cX6_asSlimy 12 = .ok (.aload_n 0, 1) := by decide +kernel
theorem dX6_asSlimy_13 : decode cX6_asSlimy 13 = .ok (.iload_n 1, 1) := by decide +kernel
theorem dX6_asSlimy_14 : decode cX6_asSlimy 14 = .ok (.invokevirtual 250, 3) := by decide +kernel
theorem dX6_asSlimy_17 : decode cX6_asSlimy 17 = .ok (.aload_n 0, 1) := by decide +kernel
theorem dX6_asSlimy_18 : decode cX6_asSlimy 18 = .ok (.getfield 29, 3) := by decide +kernel
theorem dX6_asSlimy_21 : decode cX6_asSlimy 21 = .ok (.getfield 99, 3) := by decide +kernel
theorem dX6_asSlimy_24 : decode cX6_asSlimy 24 = .ok (.invokevirtual 276, 3) := by decide +kernel
theorem dX6_asSlimy_27 : decode cX6_asSlimy 27 = .ok (.isub, 1) := by decide +kernel
theorem dX6_asSlimy_28 : decode cX6_asSlimy 28 = .ok (.ireturn, 1) := by decide +kernel
theorem dX6_asStretched_0 : decode cX6_asStretched 0 = .ok (.aload_n 0, 1) := by decide +kernel
theorem dX6_asStretched_1 : decode cX6_asStretched 1 = .ok (.dup, 1) := by decide +kernel
theorem dX6_asStretched_2 : decode cX6_asStretched 2 = .ok (.getfield 268, 3) := by decide +kernel
theorem dX6_asStretched_5 : decode cX6_asStretched 5 = .ok (.ldc2_w 280, 3) := by decide +kernel
theorem dX6_asStretched_8 : decode cX6_asStretched 8 = .ok (.ladd, 1) := by decide +kernel
theorem dX6_asStretched_9 : decode cX6_asStretched 9 = .ok (.putfield 268, 3) := by decide +kernel
theorem dX6_asStretched_12 : decode cX6_asStretched 12 = .ok (.aload_n 0, 1) := by decide +kernel
theorem dX6_asStretched_13 : decode cX6_asStretched 13 = .ok (.iload_n 1, 1) := by decide +kernel
theorem dX6_asStretched_14 : decode cX6_asStretched 14 = .ok (.invokevirtual 253, 3) := by decide +kernel
theorem dX6_asStretched_17 : decode cX6_asStretched 17 = .ok (.iconst 2, 1) := by decide +kernel
theorem dX6_asStretched_18 : decode cX6_asStretched 18 = .ok (.imul, 1) := by decide +kernel
theorem dX6_asStretched_19 : decode cX6_asStretched 19 = .ok (.ireturn, 1) := by decide +kernel
theorem dX6_asCramped_0 : decode cX6_asCramped 0 = .ok (.aload_n 0, 1) := by decide +kernel
theorem dX6_asCramped_1 : decode cX6_asCramped 1 = .ok (.dup, 1) := by decide +kernel
theorem dX6_asCramped_2 : decode cX6_asCramped 2 = .ok (.getfield 268, 3) := by decide +kernel
theorem dX6_asCramped_5 : decode cX6_asCramped 5 = .ok (.ldc2_w 282, 3) := by decide +kernel
theorem dX6_asCramped_8 : decode cX6_asCramped 8 = .ok (.ladd, 1) := by decide +kernel
theorem dX6_asCramped_9 : decode cX6_asCramped 9 = .ok (.putfield 268, 3) := by decide +kernel
theorem dX6_asCramped_12 : decode cX6_asCramped 12 = .ok (.aload_n 0, 1) := by decide +kernel
theorem dX6_asCramped_13 : decode cX6_asCramped 13 = .ok (.iload_n 1, 1) := by decide +kernel
theorem dX6_asCramped_14 : decode cX6_asCramped 14 = .ok (.invokevirtual 256, 3) := by decide +kernel
theorem dX6_asCramped_17 : decode cX6_asCramped 17 = .ok (.aload_n 0, 1) := by decide +kernel
theorem dX6_asCramped_18 : decode cX6_asCramped 18 = .ok (.getfield 19, 3) := by decide +kernel
theorem dX6_asCramped_21 : decode cX6_asCramped 21 = .ok (.invokevirtual 284, 3) := by decide +kernel
theorem dX6_asCramped_24 : decode cX6_asCramped 24 = .ok (.iadd, 1) := by decide +kernel
theorem dX6_asCramped_25 : decode cX6_asCramped 25 = .ok (.ireturn, 1) := by decide +kernel
theorem dX6_asBlind_0 : decode cX6_asBlind 0 = .ok (.aload_n 0, 1) := by decide +kernel
theorem dX6_asBlind_1 : decode cX6_asBlind 1 = .ok (.dup, 1) := by decide +kernel
theorem dX6_asBlind_2 : decode cX6_asBlind 2 = .ok (.getfield 268, 3) := by decide +kernel
theorem dX6_asBlind_5 : decode cX6_asBlind 5 = .ok (.ldc2_w 287, 3) := by decide +kernel
theorem dX6_asBlind_8 : decode cX6_asBlind 8 = .ok (.ladd, 1) := by decide +kernel
theorem dX6_asBlind_9 : decode cX6_asBlind 9 = .ok (.putfield 268, 3) := by decide +kernel
theorem dX6_asBlind_12 : decode cX6_asBlind 12 = .ok (.aload_n 0, 1) := by decide +kernel
theorem dX6_asBlind_13 : decode cX6_asBlind 13 = .ok (.iload_n 1, 1) := by decide +kernel
theorem dX6_asBlind_14 : decode cX6_asBlind 14 = .ok (.invokevirtual 250, 3) := by decide +kernel
theorem dX6_asBlind_17 : decode cX6_asBlind 17 = .ok (.aload_n 0, 1) := by decide +kernel
theorem dX6_asBlind_18 : decode cX6_asBlind 18 = .ok (.getfield 29, 3) := by decide +kernel
theorem dX6_asBlind_21 : decode cX6_asBlind 21 = .ok (.getfield 99, 3) := by decide +kernel
theorem dX6_asBlind_24 : decode cX6_asBlind 24 = .ok (.getfield 142, 3) := by decide +kernel
theorem dX6_asBlind_27 : decode cX6_asBlind 27 = .ok (.iadd, 1) := by decide +kernel
theorem dX6_asBlind_28 : decode cX6_asBlind 28 = .ok (.ireturn, 1) := by decide +kernel
theorem dX6_keep_0 : decode cX6_keep 0 = .ok (.iload_n 1, 1) := by decide +kernel
theorem dX6_keep_1 : decode cX6_keep 1 = .ok (.ifCond .lt 8, 3) := by decide +kernel
theorem dX6_keep_4 : decode cX6_keep 4 = .ok (.iload_n 1, 1) := by decide +kernel
theorem dX6_keep_5 : decode cX6_keep 5 = .ok (.iconst 2, 1) := by decide +kernel
theorem dX6_keep_6 : decode cX6_keep 6 = .ok (.if_icmp .lt 5, 3) := by decide +kernel
theorem dX6_keep_9 : decode cX6_keep 9 = .ok (.iconst (-1), 1) := by decide +kernel
theorem dX6_keep_10 : decode cX6_keep 10 = .ok (.ireturn, 1) := by decide +kernel
theorem dX6_keep_11 : decode cX6_keep 11 = .ok (.aload_n 0, 1) := by decide +kernel
theorem dX6_keep_12 : decode cX6_keep 12 = .ok (.getfield 33, 3) := by decide +kernel
theorem dX6_keep_15 : decode cX6_keep 15 = .ok (.iload_n 1, 1) := by decide +kernel
theorem dX6_keep_16 : decode cX6_keep 16 = .ok (.aaload, 1) := by decide +kernel
theorem dX6_keep_17 : decode cX6_keep 17 = .ok (.aload_n 0, 1) := by decide +kernel
theorem dX6_keep_18 : decode cX6_keep 18 = .ok (.getfield 29, 3) := by decide +kernel
theorem dX6_keep_21 : decode cX6_keep 21 = .ok (.invokevirtual 289, 3) := by decide +kernel
theorem dX6_keep_24 : decode cX6_keep 24 = .ok (.aload_n 0, 1) := by decide +kernel
theorem dX6_keep_25 : decode cX6_keep 25 = .ok (.getfield 37, 3) := by decide +kernel
theorem dX6_keep_28 : decode cX6_keep 28 = .ok (.iload_n 1, 1) := by decide +kernel
theorem dX6_keep_29 : decode cX6_keep 29 = .ok (.iconst 1, 1) := by decide +kernel
theorem dX6_keep_30 : decode cX6_keep 30 = .ok (.bastore, 1) := by decide +kernel
theorem dX6_keep_31 : decode cX6_keep 31 = .ok (.aload_n 0, 1) := by decide +kernel
theorem dX6_keep_32 : decode cX6_keep 32 = .ok (.getfield 29, 3) := by decide +kernel
theorem dX6_keep_35 : decode cX6_keep 35 = .ok (.getfield 99, 3) := by decide +kernel
theorem dX6_keep_38 : decode cX6_keep 38 = .ok (.getfield 142, 3) := by decide +kernel
theorem dX6_keep_41 : decode cX6_keep 41 = .ok (.ireturn, 1) := by decide +kernel
theorem dX6_back_0 : decode cX6_back 0 = .ok (.iload_n 1, 1) := by decide +kernel
theorem dX6_back_1 : decode cX6_back 1 = .ok (.ifCond .lt 8, 3) := by decide +kernel
theorem dX6_back_4 : decode cX6_back 4 = .ok (.iload_n 1, 1) := by decide +kernel
theorem dX6_back_5 : decode cX6_back 5 = .ok (.iconst 2, 1) := by decide +kernel
theorem dX6_back_6 : decode cX6_back 6 = .ok (.if_icmp .lt 5, 3) := by decide +kernel
theorem dX6_back_9 : decode cX6_back 9 = .ok (.iconst (-1), 1) := by decide +kernel
theorem dX6_back_10 : decode cX6_back 10 = .ok (.ireturn, 1) := by decide +kernel
theorem dX6_back_11 : decode cX6_back 11 = .ok (.aload_n 0, 1) := by decide +kernel
theorem dX6_back_12 : decode cX6_back 12 = .ok (.getfield 37, 3) := by decide +kernel
theorem dX6_back_15 : decode cX6_back 15 = .ok (.iload_n 1, 1) := by decide +kernel
theorem dX6_back_16 : decode cX6_back 16 = .ok (.baload, 1) := by decide +kernel
theorem dX6_back_17 : decode cX6_back 17 = .ok (.ifCond .ne 6, 3) := by decide +kernel
theorem dX6_back_20 : decode cX6_back 20 = .ok (.bipush (-2), 2) := by decide +kernel
theorem dX6_back_22 : decode cX6_back 22 = .ok (.ireturn, 1) := by decide +kernel
theorem dX6_back_23 : decode cX6_back 23 = .ok (.aload_n 0, 1) := by decide +kernel
theorem dX6_back_24 : decode cX6_back 24 = .ok (.getfield 29, 3) := by decide +kernel
theorem dX6_back_27 : decode cX6_back 27 = .ok (.aload_n 0, 1) := by decide +kernel
theorem dX6_back_28 : decode cX6_back 28 = .ok (.getfield 33, 3) := by decide +kernel
theorem dX6_back_31 : decode cX6_back 31 = .ok (.iload_n 1, 1) := by decide +kernel
theorem dX6_back_32 : decode cX6_back 32 = .ok (.aaload, 1) := by decide +kernel
theorem dX6_back_33 : decode cX6_back 33 = .ok (.invokevirtual 289, 3) := by decide +kernel
theorem dX6_back_36 : decode cX6_back 36 = .ok (.aload_n 0, 1) := by decide +kernel
theorem dX6_back_37 : decode cX6_back 37 = .ok (.invokevirtual 87, 3) := by decide +kernel
theorem dX6_back_40 : decode cX6_back 40 = .ok (.aload_n 0, 1) := by decide +kernel
theorem dX6_back_41 : decode cX6_back 41 = .ok (.getfield 29, 3) := by decide +kernel
theorem dX6_back_44 : decode cX6_back 44 = .ok (.getfield 99, 3) := by decide +kernel
theorem dX6_back_47 : decode cX6_back 47 = .ok (.getfield 142, 3) := by decide +kernel
theorem dX6_back_50 : decode cX6_back 50 = .ok (.ireturn, 1) := by decide +kernel
theorem dX6_count_0 : decode cX6_count 0 = .ok (.iload_n 1, 1) := by decide +kernel
theorem dX6_count_1 : decode cX6_count 1 = .ok (.tableswitch 99 0 6 #[43, 51, 59, 67, 75, 83, 91], 43) := by decide +kernel
theorem dX6_count_44 : decode cX6_count 44 = .ok (.aload_n 0, 1) := by decide +kernel
theorem dX6_count_45 : decode cX6_count 45 = .ok (.getfield 19, 3) := by decide +kernel
theorem dX6_count_48 : decode cX6_count 48 = .ok (.getfield 90, 3) := by decide +kernel
theorem dX6_count_51 : decode cX6_count 51 = .ok (.ireturn, 1) := by decide +kernel
theorem dX6_count_52 : decode cX6_count 52 = .ok (.aload_n 0, 1) := by decide +kernel
theorem dX6_count_53 : decode cX6_count 53 = .ok (.getfield 19, 3) := by decide +kernel
theorem dX6_count_56 : decode cX6_count 56 = .ok (.getfield 135, 3) := by decide +kernel
theorem dX6_count_59 : decode cX6_count 59 = .ok (.ireturn, 1) := by decide +kernel
theorem dX6_count_60 : decode cX6_count 60 = .ok (.aload_n 0, 1) := by decide +kernel
theorem dX6_count_61 : decode cX6_count 61 = .ok (.getfield 19, 3) := by decide +kernel
theorem dX6_count_64 : decode cX6_count 64 = .ok (.getfield 292, 3) := by decide +kernel
theorem dX6_count_67 : decode cX6_count 67 = .ok (.ireturn, 1) := by decide +kernel
theorem dX6_count_68 : decode cX6_count 68 = .ok (.aload_n 0, 1) := by decide +kernel
theorem dX6_count_69 : decode cX6_count 69 = .ok (.getfield 19, 3) := by decide +kernel
theorem dX6_count_72 : decode cX6_count 72 = .ok (.getfield 206, 3) := by decide +kernel
theorem dX6_count_75 : decode cX6_count 75 = .ok (.ireturn, 1) := by decide +kernel
theorem dX6_count_76 : decode cX6_count 76 = .ok (.aload_n 0, 1) := by decide +kernel
theorem dX6_count_77 : decode cX6_count 77 = .ok (.getfield 44, 3) := by decide +kernel
theorem dX6_count_80 : decode cX6_count 80 = .ok (.getfield 82, 3) := by decide +kernel
theorem dX6_count_83 : decode cX6_count 83 = .ok (.ireturn, 1) := by decide +kernel
theorem dX6_count_84 : decode cX6_count 84 = .ok (.aload_n 0, 1) := by decide +kernel
theorem dX6_count_85 : decode cX6_count 85 = .ok (.getfield 29, 3) := by decide +kernel
theorem dX6_count_88 : decode cX6_count 88 = .ok (.getfield 163, 3) := by decide +kernel
theorem dX6_count_91 : decode cX6_count 91 = .ok (.ireturn, 1) := by decide +kernel
theorem dX6_count_92 : decode cX6_count 92 = .ok (.aload_n 0, 1) := by decide +kernel
theorem dX6_count_93 : decode cX6_count 93 = .ok (.getfield 10, 3) := by decide +kernel
theorem dX6_count_96 : decode cX6_count 96 = .ok (.getfield 67, 3) := by decide +kernel
theorem dX6_count_99 : decode cX6_count 99 = .ok (.ireturn, 1) := by decide +kernel
theorem dX6_count_100 : decode cX6_count 100 = .ok (.iconst (-1), 1) := by decide +kernel
theorem dX6_count_101 : decode cX6_count 101 = .ok (.ireturn, 1) := by decide +kernel
theorem dX6_trace_0 : decode cX6_trace 0 = .ok (.aload_n 0, 1) := by decide +kernel
theorem dX6_trace_1 : decode cX6_trace 1 = .ok (.getfield 268, 3) := by decide +kernel
theorem dX6_trace_4 : decode cX6_trace 4 = .ok (.lreturn, 1) := by decide +kernel
end
section
theorem dX7_init_0 : decode cX7_init 0 = .ok (.aload_n 0, 1) := by decide +kernel
theorem dX7_init_1 : decode cX7_init 1 = .ok (.invokespecial 1, 3) := by decide +kernel
theorem dX7_init_4 : decode cX7_init 4 = .ok (.aload_n 0, 1) := by decide +kernel
theorem dX7_init_5 : decode cX7_init 5 = .ok (.bipush 8, 2) := by decide +kernel
theorem dX7_init_7 : decode cX7_init 7 = .ok (.newarray .int, 2) := by decide +kernel
theorem dX7_init_9 : decode cX7_init 9 = .ok (.putfield 7, 3) := by decide +kernel
theorem dX7_init_12 : decode cX7_init 12 = .ok (.aload_n 0, 1) := by decide +kernel
theorem dX7_init_13 : decode cX7_init 13 = .ok (.bipush 24, 2) := by decide +kernel
theorem dX7_init_15 : decode cX7_init 15 = .ok (.newarray .int, 2) := by decide +kernel
theorem dX7_init_17 : decode cX7_init 17 = .ok (.putfield 13, 3) := by decide +kernel
theorem dX7_init_20 : decode cX7_init 20 = .ok (.aload_n 0, 1) := by decide +kernel
theorem dX7_init_21 : decode cX7_init 21 = .ok (.iconst 1, 1) := by decide +kernel
theorem dX7_init_22 : decode cX7_init 22 = .ok (.putfield 16, 3) := by decide +kernel
theorem dX7_init_25 : decode cX7_init 25 = .ok (.aload_n 0, 1) := by decide +kernel
theorem dX7_init_26 : decode cX7_init 26 = .ok (.bipush 7, 2) := by decide +kernel
theorem dX7_init_28 : decode cX7_init 28 = .ok (.newarray .int, 2) := by decide +kernel
theorem dX7_init_30 : decode cX7_init 30 = .ok (.putfield 20, 3) := by decide +kernel
theorem dX7_init_33 : decode cX7_init 33 = .ok (.aload_n 0, 1) := by decide +kernel
theorem dX7_init_34 : decode cX7_init 34 = .ok (.bipush 70, 2) := by decide +kernel
theorem dX7_init_36 : decode cX7_init 36 = .ok (.newarray .int, 2) := by decide +kernel
theorem dX7_init_38 : decode cX7_init 38 = .ok (.putfield 23, 3) := by decide +kernel
theorem dX7_init_41 : decode cX7_init 41 = .ok (.aload_n 0, 1) := by decide +kernel
theorem dX7_init_42 : decode cX7_init 42 = .ok (.sipush 156, 3) := by decide +kernel
theorem dX7_init_45 : decode cX7_init 45 = .ok (.newarray .int, 2) := by decide +kernel
theorem dX7_init_47 : decode cX7_init 47 = .ok (.putfield 26, 3) := by decide +kernel
theorem dX7_init_50 : decode cX7_init 50 = .ok (.aload_n 0, 1) := by decide +kernel
theorem dX7_init_51 : decode cX7_init 51 = .ok (.iconst 2, 1) := by decide +kernel
theorem dX7_init_52 : decode cX7_init 52 = .ok (.newarray .boolean, 2) := by decide +kernel
theorem dX7_init_54 : decode cX7_init 54 = .ok (.putfield 29, 3) := by decide +kernel
theorem dX7_init_57 : decode cX7_init 57 = .ok (.aload_n 0, 1) := by decide +kernel
theorem dX7_init_58 : decode cX7_init 58 = .ok (.bipush 12, 2) := by decide +kernel
theorem dX7_init_60 : decode cX7_init 60 = .ok (.newarray .int, 2) := by decide +kernel
theorem dX7_init_62 : decode cX7_init 62 = .ok (.putfield 33, 3) := by decide +kernel
theorem dX7_init_65 : decode cX7_init 65 = .ok (.aload_n 0, 1) := by decide +kernel
theorem dX7_init_66 : decode cX7_init 66 = .ok (.sipush 200, 3) := by decide +kernel
theorem dX7_init_69 : decode cX7_init 69 = .ok (.newarray .int, 2) := by decide +kernel
theorem dX7_init_71 : decode cX7_init 71 = .ok (.putfield 36, 3) := by decide +kernel
theorem dX7_init_74 : decode cX7_init 74 = .ok (.aload_n 0, 1) := by decide +kernel
theorem dX7_init_75 : decode cX7_init 75 = .ok (.bipush 8, 2) := by decide +kernel
theorem dX7_init_77 : decode cX7_init 77 = .ok (.newarray .int, 2) := by decide +kernel
theorem dX7_init_79 : decode cX7_init 79 = .ok (.putfield 39, 3) := by decide +kernel
theorem dX7_init_82 : decode cX7_init 82 = .ok (.aload_n 0, 1) := by decide +kernel
theorem dX7_init_83 : decode cX7_init 83 = .ok (.bipush 24, 2) := by decide +kernel
theorem dX7_init_85 : decode cX7_init 85 = .ok (.newarray .int, 2) := by decide +kernel
theorem dX7_init_87 : decode cX7_init 87 = .ok (.putfield 42, 3) := by decide +kernel
theorem dX7_init_90 : decode cX7_init 90 = .ok (.aload_n 0, 1) := by decide +kernel
theorem dX7_init_91 : decode cX7_init 91 = .ok (.iconst 2, 1) := by decide +kernel
theorem dX7_init_92 : decode cX7_init 92 = .ok (.newarray .int, 2) := by decide +kernel
theorem dX7_init_94 : decode cX7_init 94 = .ok (.putfield 45, 3) := by decide +kernel
theorem dX7_init_97 : decode cX7_init 97 = .ok (.aload_n 0, 1) := by decide +kernel
theorem dX7_init_98 : decode cX7_init 98 = .ok (.bipush 28, 2) := by decide +kernel
theorem dX7_init_100 : decode cX7_init 100 = .ok (.newarray .int, 2) := by decide +kernel
theorem dX7_init_102 : decode cX7_init 102 = .ok (.putfield 48, 3) := by decide +kernel
theorem dX7_init_105 : decode cX7_init 105 = .ok (.aload_n 0, 1) := by decide +kernel
theorem dX7_init_106 : decode cX7_init 106 = .ok (.bipush 7, 2) := by decide +kernel
theorem dX7_init_108 : decode cX7_init 108 = .ok (.newarray .int, 2) := by decide +kernel
theorem dX7_init_110 : decode cX7_init 110 = .ok (.putfield 51, 3) := by decide +kernel
theorem dX7_init_113 : decode cX7_init 113 = .ok (.aload_n 0, 1) := by decide +kernel
theorem dX7_init_114 : decode cX7_init 114 = .ok (.bipush 7, 2) := by decide +kernel
theorem dX7_init_116 : decode cX7_init 116 = .ok (.newarray .int, 2) := by decide +kernel
theorem dX7_init_118 : decode cX7_init 118 = .ok (.putfield 54, 3) := by decide +kernel
theorem dX7_init_121 : decode cX7_init 121 = .ok (.aload_n 0, 1) := by decide +kernel
theorem dX7_init_122 : decode cX7_init 122 = .ok (.bipush 7, 2) := by decide +kernel
theorem dX7_init_124 : decode cX7_init 124 = .ok (.newarray .int, 2) := by decide +kernel
theorem dX7_init_126 : decode cX7_init 126 = .ok (.putfield 57, 3) := by decide +kernel
theorem dX7_init_129 : decode cX7_init 129 = .ok (.aload_n 0, 1) := by decide +kernel
theorem dX7_init_130 : decode cX7_init 130 = .ok (.bipush 6, 2) := by decide +kernel
theorem dX7_init_132 : decode cX7_init 132 = .ok (.newarray .int, 2) := by decide +kernel
theorem dX7_init_134 : decode cX7_init 134 = .ok (.putfield 60, 3) := by decide +kernel
theorem dX7_init_137 : decode cX7_init 137 = .ok (.aload_n 0, 1) := by decide +kernel
theorem dX7_init_138 : decode cX7_init 138 = .ok (.bipush 6, 2) := by decide +kernel
theorem dX7_init_140 : decode cX7_init 140 = .ok (.newarray .int, 2) := by decide +kernel
theorem dX7_init_142 : decode cX7_init 142 = .ok (.putfield 63, 3) := by decide +kernel
theorem dX7_init_145 : decode cX7_init 145 = .ok (.aload_n 0, 1) := by decide +kernel
theorem dX7_init_146 : decode cX7_init 146 = .ok (.invokevirtual 66, 3) := by decide +kernel
theorem dX7_init_149 : decode cX7_init 149 = .ok (.return_, 1) := by decide +kernel
theorem dX7_begins_0 : decode cX7_begins 0 = .ok (.iconst 0, 1) := by decide +kernel
theorem dX7_begins_1 : decode cX7_begins 1 = .ok (.istore_n 1, 1) := by decide +kernel
theorem dX7_begins_2 : decode cX7_begins 2 = .ok (.iload_n 1, 1) := by decide +kernel
theorem dX7_begins_3 : decode cX7_begins 3 = .ok (.bipush 7, 2) := by decide +kernel
theorem dX7_begins_5 : decode cX7_begins 5 = .ok (.if_icmp .ge 26, 3) := by decide +kernel
theorem dX7_begins_8 : decode cX7_begins 8 = .ok (.aload_n 0, 1) := by decide +kernel
theorem dX7_begins_9 : decode cX7_begins 9 = .ok (.getfield 20, 3) := by decide +kernel
theorem dX7_begins_12 : decode cX7_begins 12 = .ok (.iload_n 1, 1) := by decide +kernel
theorem dX7_begins_13 : decode cX7_begins 13 = .ok (.iload_n 1, 1) := by decide +kernel
theorem dX7_begins_14 : decode cX7_begins 14 = .ok (.iconst 2, 1) := by decide +kernel
theorem dX7_begins_15 : decode cX7_begins 15 = .ok (.if_icmp .ne 8, 3) := by decide +kernel
theorem dX7_begins_18 : decode cX7_begins 18 = .ok (.bipush (-9), 2) := by decide +kernel
theorem dX7_begins_20 : decode cX7_begins 20 = .ok (.goto 4, 3) := by decide +kernel
theorem dX7_begins_23 : decode cX7_begins 23 = .ok (.iconst 0, 1) := by decide +kernel
theorem dX7_begins_24 : decode cX7_begins 24 = .ok (.iastore, 1) := by decide +kernel
theorem dX7_begins_25 : decode cX7_begins 25 = .ok (.iinc 1 1, 3) := by decide +kernel
theorem dX7_begins_28 : decode cX7_begins 28 = .ok (.goto (-26), 3) := by decide +kernel
theorem dX7_begins_31 : decode cX7_begins 31 = .ok (.return_, 1) := by decide +kernel
theorem dX7_in_0 : decode cX7_in 0 = .ok (.iload_n 0, 1) := by decide +kernel
theorem dX7_in_1 : decode cX7_in 1 = .ok (.iload_n 1, 1) := by decide +kernel
theorem dX7_in_2 : decode cX7_in 2 = .ok (.if_icmp .lt 12, 3) := by decide +kernel
theorem dX7_in_5 : decode cX7_in 5 = .ok (.iload_n 0, 1) := by decide +kernel
theorem dX7_in_6 : decode cX7_in 6 = .ok (.iload_n 2, 1) := by decide +kernel
theorem dX7_in_7 : decode cX7_in 7 = .ok (.if_icmp .gt 7, 3) := by decide +kernel
theorem dX7_in_10 : decode cX7_in 10 = .ok (.iconst 1, 1) := by decide +kernel
theorem dX7_in_11 : decode cX7_in 11 = .ok (.goto 4, 3) := by decide +kernel
theorem dX7_in_14 : decode cX7_in 14 = .ok (.iconst 0, 1) := by decide +kernel
theorem dX7_in_15 : decode cX7_in 15 = .ok (.ireturn, 1) := by decide +kernel
theorem dX7_has_0 : decode cX7_has 0 = .ok (.iload_n 0, 1) := by decide +kernel
theorem dX7_has_1 : decode cX7_has 1 = .ok (.iload_n 1, 1) := by decide +kernel
theorem dX7_has_2 : decode cX7_has 2 = .ok (.ishr, 1) := by decide +kernel
theorem dX7_has_3 : decode cX7_has 3 = .ok (.iconst 1, 1) := by decide +kernel
theorem dX7_has_4 : decode cX7_has 4 = .ok (.iand, 1) := by decide +kernel
theorem dX7_has_5 : decode cX7_has 5 = .ok (.iconst 1, 1) := by decide +kernel
theorem dX7_has_6 : decode cX7_has 6 = .ok (.if_icmp .ne 7, 3) := by decide +kernel
theorem dX7_has_9 : decode cX7_has 9 = .ok (.iconst 1, 1) := by decide +kernel
theorem dX7_has_10 : decode cX7_has 10 = .ok (.goto 4, 3) := by decide +kernel
theorem dX7_has_13 : decode cX7_has 13 = .ok (.iconst 0, 1) := by decide +kernel
theorem dX7_has_14 : decode cX7_has 14 = .ok (.ireturn, 1) := by decide +kernel
theorem dX7_isWalker_0 : decode cX7_isWalker 0 = .ok (.iload_n 1, 1) := by decide +kernel
theorem dX7_isWalker_1 : decode cX7_isWalker 1 = .ok (.iconst 0, 1) := by decide +kernel
theorem dX7_isWalker_2 : decode cX7_isWalker 2 = .ok (.aload_n 0, 1) := by decide +kernel
theorem dX7_isWalker_3 : decode cX7_isWalker 3 = .ok (.getfield 69, 3) := by decide +kernel
theorem dX7_isWalker_6 : decode cX7_isWalker 6 = .ok (.iconst 1, 1) := by decide +kernel
theorem dX7_isWalker_7 : decode cX7_isWalker 7 = .ok (.isub, 1) := by decide +kernel
theorem dX7_isWalker_8 : decode cX7_isWalker 8 = .ok (.invokestatic 72, 3) := by decide +kernel
theorem dX7_isWalker_11 : decode cX7_isWalker 11 = .ok (.ireturn, 1) := by decide +kernel
theorem dX7_isStretch_0 : decode cX7_isStretch 0 = .ok (.iload_n 1, 1) := by decide +kernel
theorem dX7_isStretch_1 : decode cX7_isStretch 1 = .ok (.iconst 0, 1) := by decide +kernel
theorem dX7_isStretch_2 : decode cX7_isStretch 2 = .ok (.aload_n 0, 1) := by decide +kernel
theorem dX7_isStretch_3 : decode cX7_isStretch 3 = .ok (.getfield 76, 3) := by decide +kernel
theorem dX7_isStretch_6 : decode cX7_isStretch 6 = .ok (.iconst 1, 1) := by decide +kernel
theorem dX7_isStretch_7 : decode cX7_isStretch 7 = .ok (.isub, 1) := by decide +kernel
theorem dX7_isStretch_8 : decode cX7_isStretch 8 = .ok (.invokestatic 72, 3) := by decide +kernel
theorem dX7_isStretch_11 : decode cX7_isStretch 11 = .ok (.ireturn, 1) := by decide +kernel
theorem dX7_isPair_0 : decode cX7_isPair 0 = .ok (.iload_n 1, 1) := by decide +kernel
theorem dX7_isPair_1 : decode cX7_isPair 1 = .ok (.iconst 1, 1) := by decide +kernel
theorem dX7_isPair_2 : decode cX7_isPair 2 = .ok (.bipush 23, 2) := by decide +kernel
theorem dX7_isPair_4 : decode cX7_isPair 4 = .ok (.invokestatic 72, 3) := by decide +kernel
theorem dX7_isPair_7 : decode cX7_isPair 7 = .ok (.ifCond .eq 29, 3) := by decide +kernel
theorem dX7_isPair_10 : decode cX7_isPair 10 = .ok (.iload_n 1, 1) := by decide +kernel
theorem dX7_isPair_11 : decode cX7_isPair 11 = .ok (.bipush 10, 2) := by decide +kernel
theorem dX7_isPair_13 : decode cX7_isPair 13 = .ok (.idiv, 1) := by decide +kernel
theorem dX7_isPair_14 : decode cX7_isPair 14 = .ok (.iload_n 1, 1) := by decide +kernel
theorem dX7_isPair_15 : decode cX7_isPair 15 = .ok (.bipush 10, 2) := by decide +kernel
theorem dX7_isPair_17 : decode cX7_isPair 17 = .ok (.irem, 1) := by decide +kernel
theorem dX7_isPair_18 : decode cX7_isPair 18 = .ok (.if_icmp .ge 18, 3) := by decide +kernel
theorem dX7_isPair_21 : decode cX7_isPair 21 = .ok (.aload_n 0, 1) := by decide +kernel
theorem dX7_isPair_22 : decode cX7_isPair 22 = .ok (.iload_n 1, 1) := by decide +kernel
theorem dX7_isPair_23 : decode cX7_isPair 23 = .ok (.bipush 10, 2) := by decide +kernel
theorem dX7_isPair_25 : decode cX7_isPair 25 = .ok (.irem, 1) := by decide +kernel
theorem dX7_isPair_26 : decode cX7_isPair 26 = .ok (.invokevirtual 79, 3) := by decide +kernel
theorem dX7_isPair_29 : decode cX7_isPair 29 = .ok (.ifCond .eq 7, 3) := by decide +kernel
theorem dX7_isPair_32 : decode cX7_isPair 32 = .ok (.iconst 1, 1) := by decide +kernel
theorem dX7_isPair_33 : decode cX7_isPair 33 = .ok (.goto 4, 3) := by decide +kernel
theorem dX7_isPair_36 : decode cX7_isPair 36 = .ok (.iconst 0, 1) := by decide +kernel
theorem dX7_isPair_37 : decode cX7_isPair 37 = .ok (.ireturn, 1) := by decide +kernel
theorem dX7_type_0 : decode cX7_type 0 = .ok (.iload_n 1, 1) := by decide +kernel
theorem dX7_type_1 : decode cX7_type 1 = .ok (.iconst 0, 1) := by decide +kernel
theorem dX7_type_2 : decode cX7_type 2 = .ok (.sipush 255, 3) := by decide +kernel
theorem dX7_type_5 : decode cX7_type 5 = .ok (.invokestatic 72, 3) := by decide +kernel
theorem dX7_type_8 : decode cX7_type 8 = .ok (.ifCond .ne 5, 3) := by decide +kernel
theorem dX7_type_11 : decode cX7_type 11 = .ok (.iconst (-1), 1) := by decide +kernel
theorem dX7_type_12 : decode cX7_type 12 = .ok (.ireturn, 1) := by decide +kernel
theorem dX7_type_13 : decode cX7_type 13 = .ok (.aload_n 0, 1) := by decide +kernel
theorem dX7_type_14 : decode cX7_type 14 = .ok (.getfield 83, 3) := by decide +kernel
theorem dX7_type_17 : decode cX7_type 17 = .ok (.sipush 200, 3) := by decide +kernel
theorem dX7_type_20 : decode cX7_type 20 = .ok (.if_icmp .ne 6, 3) := by decide +kernel
theorem dX7_type_23 : decode cX7_type 23 = .ok (.bipush (-3), 2) := by decide +kernel
theorem dX7_type_25 : decode cX7_type 25 = .ok (.ireturn, 1) := by decide +kernel
theorem dX7_type_26 : decode cX7_type 26 = .ok (.aload_n 0, 1) := by decide +kernel
theorem dX7_type_27 : decode cX7_type 27 = .ok (.getfield 36, 3) := by decide +kernel
theorem dX7_type_30 : decode cX7_type 30 = .ok (.aload_n 0, 1) := by decide +kernel
theorem dX7_type_31 : decode cX7_type 31 = .ok (.getfield 83, 3) := by decide +kernel
theorem dX7_type_34 : decode cX7_type 34 = .ok (.iload_n 1, 1) := by decide +kernel
theorem dX7_type_35 : decode cX7_type 35 = .ok (.iastore, 1) := by decide +kernel
theorem dX7_type_36 : decode cX7_type 36 = .ok (.aload_n 0, 1) := by decide +kernel
theorem dX7_type_37 : decode cX7_type 37 = .ok (.dup, 1) := by decide +kernel
theorem dX7_type_38 : decode cX7_type 38 = .ok (.getfield 83, 3) := by decide +kernel
theorem dX7_type_41 : decode cX7_type 41 = .ok (.iconst 1, 1) := by decide +kernel
theorem dX7_type_42 : decode cX7_type 42 = .ok (.iadd, 1) := by decide +kernel
theorem dX7_type_43 : decode cX7_type 43 = .ok (.putfield 83, 3) := by decide +kernel
theorem dX7_type_46 : decode cX7_type 46 = .ok (.aload_n 0, 1) := by decide +kernel
theorem dX7_type_47 : decode cX7_type 47 = .ok (.getfield 83, 3) := by decide +kernel
theorem dX7_type_50 : decode cX7_type 50 = .ok (.ireturn, 1) := by decide +kernel
theorem dX7_clear_0 : decode cX7_clear 0 = .ok (.aload_n 0, 1) := by decide +kernel
theorem dX7_clear_1 : decode cX7_clear 1 = .ok (.getfield 83, 3) := by decide +kernel
theorem dX7_clear_4 : decode cX7_clear 4 = .ok (.istore_n 1, 1) := by decide +kernel
theorem dX7_clear_5 : decode cX7_clear 5 = .ok (.aload_n 0, 1) := by decide +kernel
theorem dX7_clear_6 : decode cX7_clear 6 = .ok (.iconst 0, 1) := by decide +kernel
theorem dX7_clear_7 : decode cX7_clear 7 = .ok (.putfield 83, 3) := by decide +kernel
theorem dX7_clear_10 : decode cX7_clear 10 = .ok (.iload_n 1, 1) := by decide +kernel
theorem dX7_clear_11 : decode cX7_clear 11 = .ok (.ireturn, 1) := by decide +kernel
theorem dX7_byteAt_0 : decode cX7_byteAt 0 = .ok (.iload_n 1, 1) := by decide +kernel
theorem dX7_byteAt_1 : decode cX7_byteAt 1 = .ok (.aload_n 0, 1) := by decide +kernel
theorem dX7_byteAt_2 : decode cX7_byteAt 2 = .ok (.getfield 83, 3) := by decide +kernel
theorem dX7_byteAt_5 : decode cX7_byteAt 5 = .ok (.if_icmp .ge 12, 3) := by decide +kernel
theorem dX7_byteAt_8 : decode cX7_byteAt 8 = .ok (.aload_n 0, 1) := by decide +kernel
theorem dX7_byteAt_9 : decode cX7_byteAt 9 = .ok (.getfield 36, 3) := by decide +kernel
theorem dX7_byteAt_12 : decode cX7_byteAt 12 = .ok (.iload_n 1, 1) := by decide +kernel
theorem dX7_byteAt_13 : decode cX7_byteAt 13 = .ok (.iaload, 1) := by decide +kernel
theorem dX7_byteAt_14 : decode cX7_byteAt 14 = .ok (.goto 4, 3) := by decide +kernel
theorem dX7_byteAt_17 : decode cX7_byteAt 17 = .ok (.iconst (-1), 1) := by decide +kernel
theorem dX7_byteAt_18 : decode cX7_byteAt 18 = .ok (.ireturn, 1) := by decide +kernel
theorem dX7_isSmall_0 : decode cX7_isSmall 0 = .ok (.iload_n 0, 1) := by decide +kernel
theorem dX7_isSmall_1 : decode cX7_isSmall 1 = .ok (.bipush 97, 2) := by decide +kernel
theorem dX7_isSmall_3 : decode cX7_isSmall 3 = .ok (.bipush 122, 2) := by decide +kernel
theorem dX7_isSmall_5 : decode cX7_isSmall 5 = .ok (.invokestatic 72, 3) := by decide +kernel
theorem dX7_isSmall_8 : decode cX7_isSmall 8 = .ok (.ireturn, 1) := by decide +kernel
theorem dX7_isFigure_0 : decode cX7_isFigure 0 = .ok (.iload_n 0, 1) := by decide +kernel
theorem dX7_isFigure_1 : decode cX7_isFigure 1 = .ok (.bipush 48, 2) := by decide +kernel
theorem dX7_isFigure_3 : decode cX7_isFigure 3 = .ok (.bipush 57, 2) := by decide +kernel
theorem dX7_isFigure_5 : decode cX7_isFigure 5 = .ok (.invokestatic 72, 3) := by decide +kernel
theorem dX7_isFigure_8 : decode cX7_isFigure 8 = .ok (.ireturn, 1) := by decide +kernel
theorem dX7_next_0 : decode cX7_next 0 = .ok (.aload_n 0, 1) := by decide +kernel
theorem dX7_next_1 : decode cX7_next 1 = .ok (.aload_n 0, 1) := by decide +kernel
theorem dX7_next_2 : decode cX7_next 2 = .ok (.getfield 86, 3) := by decide +kernel
theorem dX7_next_5 : decode cX7_next 5 = .ok (.invokevirtual 89, 3) := by decide +kernel
theorem dX7_next_8 : decode cX7_next 8 = .ok (.bipush 32, 2) := by decide +kernel
theorem dX7_next_10 : decode cX7_next 10 = .ok (.if_icmp .ne 16, 3) := by decide +kernel
theorem dX7_next_13 : decode cX7_next 13 = .ok (.aload_n 0, 1) := by decide +kernel
theorem dX7_next_14 : decode cX7_next 14 = .ok (.dup, 1) := by decide +kernel
theorem dX7_next_15 : decode cX7_next 15 = .ok (.getfield 86, 3) := by decide +kernel
theorem dX7_next_18 : decode cX7_next 18 = .ok (.iconst 1, 1) := by decide +kernel
theorem dX7_next_19 : decode cX7_next 19 = .ok (.iadd, 1) := by decide +kernel
theorem dX7_next_20 : decode cX7_next 20 = .ok (.putfield 86, 3) := by decide +kernel
theorem dX7_next_23 : decode cX7_next 23 = .ok (.goto (-23), 3) := by decide +kernel
theorem dX7_next_26 : decode cX7_next 26 = .ok (.aload_n 0, 1) := by decide +kernel
theorem dX7_next_27 : decode cX7_next 27 = .ok (.aload_n 0, 1) := by decide +kernel
theorem dX7_next_28 : decode cX7_next 28 = .ok (.getfield 86, 3) := by decide +kernel
theorem dX7_next_31 : decode cX7_next 31 = .ok (.putfield 93, 3) := by decide +kernel
theorem dX7_next_34 : decode cX7_next 34 = .ok (.aload_n 0, 1) := by decide +kernel
theorem dX7_next_35 : decode cX7_next 35 = .ok (.aload_n 0, 1) := by decide +kernel
theorem dX7_next_36 : decode cX7_next 36 = .ok (.getfield 86, 3) := by decide +kernel
theorem dX7_next_39 : decode cX7_next 39 = .ok (.invokevirtual 89, 3) := by decide +kernel
theorem dX7_next_42 : decode cX7_next 42 = .ok (.istore_n 1, 1) := by decide +kernel
theorem dX7_next_43 : decode cX7_next 43 = .ok (.aload_n 0, 1) := by decide +kernel
theorem dX7_next_44 : decode cX7_next 44 = .ok (.iconst 0, 1) := by decide +kernel
theorem dX7_next_45 : decode cX7_next 45 = .ok (.putfield 96, 3) := by decide +kernel
theorem dX7_next_48 : decode cX7_next 48 = .ok (.iload_n 1, 1) := by decide +kernel
theorem dX7_next_49 : decode cX7_next 49 = .ok (.ifCond .ge 11, 3) := by decide +kernel
theorem dX7_next_52 : decode cX7_next 52 = .ok (.aload_n 0, 1) := by decide +kernel
theorem dX7_next_53 : decode cX7_next 53 = .ok (.iconst 0, 1) := by decide +kernel
theorem dX7_next_54 : decode cX7_next 54 = .ok (.putfield 99, 3) := by decide +kernel
theorem dX7_next_57 : decode cX7_next 57 = .ok (.goto 210, 3) := by decide +kernel
theorem dX7_next_60 : decode cX7_next 60 = .ok (.iload_n 1, 1) := by decide +kernel
theorem dX7_next_61 : decode cX7_next 61 = .ok (.invokestatic 102, 3) := by decide +kernel
theorem dX7_next_64 : decode cX7_next 64 = .ok (.ifCond .eq 60, 3) := by decide +kernel
theorem dX7_next_67 : decode cX7_next 67 = .ok (.aload_n 0, 1) := by decide +kernel
theorem dX7_next_68 : decode cX7_next 68 = .ok (.iconst 1, 1) := by decide +kernel
theorem dX7_next_69 : decode cX7_next 69 = .ok (.putfield 99, 3) := by decide +kernel
theorem dX7_next_72 : decode cX7_next 72 = .ok (.aload_n 0, 1) := by decide +kernel
theorem dX7_next_73 : decode cX7_next 73 = .ok (.aload_n 0, 1) := by decide +kernel
theorem dX7_next_74 : decode cX7_next 74 = .ok (.getfield 86, 3) := by decide +kernel
theorem dX7_next_77 : decode cX7_next 77 = .ok (.invokevirtual 89, 3) := by decide +kernel
theorem dX7_next_80 : decode cX7_next 80 = .ok (.invokestatic 102, 3) := by decide +kernel
theorem dX7_next_83 : decode cX7_next 83 = .ok (.ifCond .eq 16, 3) := by decide +kernel
theorem dX7_next_86 : decode cX7_next 86 = .ok (.aload_n 0, 1) := by decide +kernel
theorem dX7_next_87 : decode cX7_next 87 = .ok (.dup, 1) := by decide +kernel
theorem dX7_next_88 : decode cX7_next 88 = .ok (.getfield 86, 3) := by decide +kernel
theorem dX7_next_91 : decode cX7_next 91 = .ok (.iconst 1, 1) := by decide +kernel
theorem dX7_next_92 : decode cX7_next 92 = .ok (.iadd, 1) := by decide +kernel
theorem dX7_next_93 : decode cX7_next 93 = .ok (.putfield 86, 3) := by decide +kernel
theorem dX7_next_96 : decode cX7_next 96 = .ok (.goto (-24), 3) := by decide +kernel
theorem dX7_next_99 : decode cX7_next 99 = .ok (.aload_n 0, 1) := by decide +kernel
theorem dX7_next_100 : decode cX7_next 100 = .ok (.aload_n 0, 1) := by decide +kernel
theorem dX7_next_101 : decode cX7_next 101 = .ok (.getfield 86, 3) := by decide +kernel
theorem dX7_next_104 : decode cX7_next 104 = .ok (.aload_n 0, 1) := by decide +kernel
theorem dX7_next_105 : decode cX7_next 105 = .ok (.getfield 93, 3) := by decide +kernel
theorem dX7_next_108 : decode cX7_next 108 = .ok (.isub, 1) := by decide +kernel
theorem dX7_next_109 : decode cX7_next 109 = .ok (.iconst 1, 1) := by decide +kernel
theorem dX7_next_110 : decode cX7_next 110 = .ok (.if_icmp .ne 7, 3) := by decide +kernel
theorem dX7_next_113 : decode cX7_next 113 = .ok (.iload_n 1, 1) := by decide +kernel
theorem dX7_next_114 : decode cX7_next 114 = .ok (.goto 4, 3) := by decide +kernel
theorem dX7_next_117 : decode cX7_next 117 = .ok (.iconst 0, 1) := by decide +kernel
theorem dX7_next_118 : decode cX7_next 118 = .ok (.putfield 96, 3) := by decide +kernel
theorem dX7_next_121 : decode cX7_next 121 = .ok (.goto 146, 3) := by decide +kernel
theorem dX7_next_124 : decode cX7_next 124 = .ok (.iload_n 1, 1) := by decide +kernel
theorem dX7_next_125 : decode cX7_next 125 = .ok (.invokestatic 105, 3) := by decide +kernel
theorem dX7_next_128 : decode cX7_next 128 = .ok (.ifCond .eq 114, 3) := by decide +kernel
theorem dX7_next_131 : decode cX7_next 131 = .ok (.aload_n 0, 1) := by decide +kernel
theorem dX7_next_132 : decode cX7_next 132 = .ok (.iconst 2, 1) := by decide +kernel
theorem dX7_next_133 : decode cX7_next 133 = .ok (.putfield 99, 3) := by decide +kernel
theorem dX7_next_136 : decode cX7_next 136 = .ok (.aload_n 0, 1) := by decide +kernel
theorem dX7_next_137 : decode cX7_next 137 = .ok (.aload_n 0, 1) := by decide +kernel
theorem dX7_next_138 : decode cX7_next 138 = .ok (.getfield 86, 3) := by decide +kernel
theorem dX7_next_141 : decode cX7_next 141 = .ok (.invokevirtual 89, 3) := by decide +kernel
theorem dX7_next_144 : decode cX7_next 144 = .ok (.invokestatic 105, 3) := by decide +kernel
theorem dX7_next_147 : decode cX7_next 147 = .ok (.ifCond .eq 55, 3) := by decide +kernel
theorem dX7_next_150 : decode cX7_next 150 = .ok (.aload_n 0, 1) := by decide +kernel
theorem dX7_next_151 : decode cX7_next 151 = .ok (.aload_n 0, 1) := by decide +kernel
theorem dX7_next_152 : decode cX7_next 152 = .ok (.getfield 96, 3) := by decide +kernel
theorem dX7_next_155 : decode cX7_next 155 = .ok (.bipush 99, 2) := by decide +kernel
theorem dX7_next_157 : decode cX7_next 157 = .ok (.if_icmp .le 10, 3) := by decide +kernel
theorem dX7_next_160 : decode cX7_next 160 = .ok (.aload_n 0, 1) := by decide +kernel
theorem dX7_next_161 : decode cX7_next 161 = .ok (.getfield 96, 3) := by decide +kernel
theorem dX7_next_164 : decode cX7_next 164 = .ok (.goto 22, 3) := by decide +kernel
theorem dX7_next_167 : decode cX7_next 167 = .ok (.bipush 10, 2) := by decide +kernel
theorem dX7_next_169 : decode cX7_next 169 = .ok (.aload_n 0, 1) := by decide +kernel
theorem dX7_next_170 : decode cX7_next 170 = .ok (.getfield 96, 3) := by decide +kernel
theorem dX7_next_173 : decode cX7_next 173 = .ok (.imul, 1) := by decide +kernel
theorem dX7_next_174 : decode cX7_next 174 = .ok (.aload_n 0, 1) := by decide +kernel
theorem dX7_next_175 : decode cX7_next 175 = .ok (.aload_n 0, 1) := by decide +kernel
theorem dX7_next_176 : decode cX7_next 176 = .ok (.getfield 86, 3) := by decide +kernel
theorem dX7_next_179 : decode cX7_next 179 = .ok (.invokevirtual 89, 3) := by decide +kernel
theorem dX7_next_182 : decode cX7_next 182 = .ok (.iadd, 1) := by decide +kernel
theorem dX7_next_183 : decode cX7_next 183 = .ok (.bipush 48, 2) := by decide +kernel
theorem dX7_next_185 : decode cX7_next 185 = .ok (.isub, 1) := by decide +kernel
theorem dX7_next_186 : decode cX7_next 186 = .ok (.putfield 96, 3) := by decide +kernel
theorem dX7_next_189 : decode cX7_next 189 = .ok (.aload_n 0, 1) := by decide +kernel
theorem dX7_next_190 : decode cX7_next 190 = .ok (.dup, 1) := by decide +kernel
theorem dX7_next_191 : decode cX7_next 191 = .ok (.getfield 86, 3) := by decide +kernel
theorem dX7_next_194 : decode cX7_next 194 = .ok (.iconst 1, 1) := by decide +kernel
theorem dX7_next_195 : decode cX7_next 195 = .ok (.iadd, 1) := by decide +kernel
theorem dX7_next_196 : decode cX7_next 196 = .ok (.putfield 86, 3) := by decide +kernel
theorem dX7_next_199 : decode cX7_next 199 = .ok (.goto (-63), 3) := by decide +kernel
theorem dX7_next_202 : decode cX7_next 202 = .ok (.aload_n 0, 1) := by decide +kernel
theorem dX7_next_203 : decode cX7_next 203 = .ok (.aload_n 0, 1) := by decide +kernel
theorem dX7_next_204 : decode cX7_next 204 = .ok (.getfield 96, 3) := by decide +kernel
theorem dX7_next_207 : decode cX7_next 207 = .ok (.bipush 99, 2) := by decide +kernel
theorem dX7_next_209 : decode cX7_next 209 = .ok (.if_icmp .gt 22, 3) := by decide +kernel
theorem dX7_next_212 : decode cX7_next 212 = .ok (.iload_n 1, 1) := by decide +kernel
theorem dX7_next_213 : decode cX7_next 213 = .ok (.bipush 48, 2) := by decide +kernel
theorem dX7_next_215 : decode cX7_next 215 = .ok (.if_icmp .ne 20, 3) := by decide +kernel
theorem dX7_next_218 : decode cX7_next 218 = .ok (.aload_n 0, 1) := by decide +kernel
theorem dX7_next_219 : decode cX7_next 219 = .ok (.getfield 86, 3) := by decide +kernel
theorem dX7_next_222 : decode cX7_next 222 = .ok (.aload_n 0, 1) := by decide +kernel
theorem dX7_next_223 : decode cX7_next 223 = .ok (.getfield 93, 3) := by decide +kernel
theorem dX7_next_226 : decode cX7_next 226 = .ok (.isub, 1) := by decide +kernel
theorem dX7_next_227 : decode cX7_next 227 = .ok (.iconst 1, 1) := by decide +kernel
theorem dX7_next_228 : decode cX7_next 228 = .ok (.if_icmp .le 7, 3) := by decide +kernel
theorem dX7_next_231 : decode cX7_next 231 = .ok (.iconst 4, 1) := by decide +kernel
theorem dX7_next_232 : decode cX7_next 232 = .ok (.goto 4, 3) := by decide +kernel
theorem dX7_next_235 : decode cX7_next 235 = .ok (.iconst 2, 1) := by decide +kernel
theorem dX7_next_236 : decode cX7_next 236 = .ok (.putfield 99, 3) := by decide +kernel
theorem dX7_next_239 : decode cX7_next 239 = .ok (.goto 28, 3) := by decide +kernel
theorem dX7_next_242 : decode cX7_next 242 = .ok (.aload_n 0, 1) := by decide +kernel
theorem dX7_next_243 : decode cX7_next 243 = .ok (.iload_n 1, 1) := by decide +kernel
theorem dX7_next_244 : decode cX7_next 244 = .ok (.bipush 59, 2) := by decide +kernel
theorem dX7_next_246 : decode cX7_next 246 = .ok (.if_icmp .ne 7, 3) := by decide +kernel
theorem dX7_next_249 : decode cX7_next 249 = .ok (.iconst 3, 1) := by decide +kernel
theorem dX7_next_250 : decode cX7_next 250 = .ok (.goto 4, 3) := by decide +kernel
theorem dX7_next_253 : decode cX7_next 253 = .ok (.iconst 4, 1) := by decide +kernel
theorem dX7_next_254 : decode cX7_next 254 = .ok (.putfield 99, 3) := by decide +kernel
theorem dX7_next_257 : decode cX7_next 257 = .ok (.aload_n 0, 1) := by decide +kernel
theorem dX7_next_258 : decode cX7_next 258 = .ok (.dup, 1) := by decide +kernel
theorem dX7_next_259 : decode cX7_next 259 = .ok (.getfield 86, 3) := by decide +kernel
theorem dX7_next_262 : decode cX7_next 262 = .ok (.iconst 1, 1) := by decide +kernel
theorem dX7_next_263 : decode cX7_next 263 = .ok (.iadd, 1) := by decide +kernel
theorem dX7_next_264 : decode cX7_next 264 = .ok (.putfield 86, 3) := by decide +kernel
theorem dX7_next_267 : decode cX7_next 267 = .ok (.return_, 1) := by decide +kernel
theorem dX7_reads_0 : decode cX7_reads 0 = .ok (.aload_n 0, 1) := by decide +kernel
theorem dX7_reads_1 : decode cX7_reads 1 = .ok (.getfield 108, 3) := by decide +kernel
theorem dX7_reads_4 : decode cX7_reads 4 = .ok (.ifCond .ne 28, 3) := by decide +kernel
theorem dX7_reads_7 : decode cX7_reads 7 = .ok (.aload_n 0, 1) := by decide +kernel
theorem dX7_reads_8 : decode cX7_reads 8 = .ok (.getfield 99, 3) := by decide +kernel
theorem dX7_reads_11 : decode cX7_reads 11 = .ok (.iconst 2, 1) := by decide +kernel
theorem dX7_reads_12 : decode cX7_reads 12 = .ok (.if_icmp .ne 20, 3) := by decide +kernel
theorem dX7_reads_15 : decode cX7_reads 15 = .ok (.aload_n 0, 1) := by decide +kernel
theorem dX7_reads_16 : decode cX7_reads 16 = .ok (.getfield 96, 3) := by decide +kernel
theorem dX7_reads_19 : decode cX7_reads 19 = .ok (.iload_n 3, 1) := by decide +kernel
theorem dX7_reads_20 : decode cX7_reads 20 = .ok (.iload 4, 2) := by decide +kernel
theorem dX7_reads_22 : decode cX7_reads 22 = .ok (.invokestatic 72, 3) := by decide +kernel
theorem dX7_reads_25 : decode cX7_reads 25 = .ok (.ifCond .eq 7, 3) := by decide +kernel
theorem dX7_reads_28 : decode cX7_reads 28 = .ok (.iconst 1, 1) := by decide +kernel
theorem dX7_reads_29 : decode cX7_reads 29 = .ok (.goto 4, 3) := by decide +kernel
theorem dX7_reads_32 : decode cX7_reads 32 = .ok (.iconst 0, 1) := by decide +kernel
theorem dX7_reads_33 : decode cX7_reads 33 = .ok (.istore 5, 2) := by decide +kernel
theorem dX7_reads_35 : decode cX7_reads 35 = .ok (.aload_n 0, 1) := by decide +kernel
theorem dX7_reads_36 : decode cX7_reads 36 = .ok (.iload 5, 2) := by decide +kernel
theorem dX7_reads_38 : decode cX7_reads 38 = .ok (.ifCond .ne 7, 3) := by decide +kernel
theorem dX7_reads_41 : decode cX7_reads 41 = .ok (.iconst 1, 1) := by decide +kernel
theorem dX7_reads_42 : decode cX7_reads 42 = .ok (.goto 4, 3) := by decide +kernel
theorem dX7_reads_45 : decode cX7_reads 45 = .ok (.iconst 0, 1) := by decide +kernel
theorem dX7_reads_46 : decode cX7_reads 46 = .ok (.putfield 108, 3) := by decide +kernel
theorem dX7_reads_49 : decode cX7_reads 49 = .ok (.iload 5, 2) := by decide +kernel
theorem dX7_reads_51 : decode cX7_reads 51 = .ok (.ifCond .eq 14, 3) := by decide +kernel
theorem dX7_reads_54 : decode cX7_reads 54 = .ok (.aload_n 1, 1) := by decide +kernel
theorem dX7_reads_55 : decode cX7_reads 55 = .ok (.iload_n 2, 1) := by decide +kernel
theorem dX7_reads_56 : decode cX7_reads 56 = .ok (.aload_n 0, 1) := by decide +kernel
theorem dX7_reads_57 : decode cX7_reads 57 = .ok (.getfield 96, 3) := by decide +kernel
theorem dX7_reads_60 : decode cX7_reads 60 = .ok (.iastore, 1) := by decide +kernel
theorem dX7_reads_61 : decode cX7_reads 61 = .ok (.aload_n 0, 1) := by decide +kernel
theorem dX7_reads_62 : decode cX7_reads 62 = .ok (.invokevirtual 112, 3) := by decide +kernel
theorem dX7_reads_65 : decode cX7_reads 65 = .ok (.return_, 1) := by decide +kernel
theorem dX7_readWalker_0 : decode cX7_readWalker 0 = .ok (.iconst 2, 1) := by decide +kernel
theorem dX7_readWalker_1 : decode cX7_readWalker 1 = .ok (.aload_n 0, 1) := by decide +kernel
theorem dX7_readWalker_2 : decode cX7_readWalker 2 = .ok (.getfield 115, 3) := by decide +kernel
theorem dX7_readWalker_5 : decode cX7_readWalker 5 = .ok (.imul, 1) := by decide +kernel
theorem dX7_readWalker_6 : decode cX7_readWalker 6 = .ok (.istore_n 1, 1) := by decide +kernel
theorem dX7_readWalker_7 : decode cX7_readWalker 7 = .ok (.aload_n 0, 1) := by decide +kernel
theorem dX7_readWalker_8 : decode cX7_readWalker 8 = .ok (.aload_n 0, 1) := by decide +kernel
theorem dX7_readWalker_9 : decode cX7_readWalker 9 = .ok (.getfield 39, 3) := by decide +kernel
theorem dX7_readWalker_12 : decode cX7_readWalker 12 = .ok (.iload_n 1, 1) := by decide +kernel
theorem dX7_readWalker_13 : decode cX7_readWalker 13 = .ok (.iconst 1, 1) := by decide +kernel
theorem dX7_readWalker_14 : decode cX7_readWalker 14 = .ok (.bipush 9, 2) := by decide +kernel
theorem dX7_readWalker_16 : decode cX7_readWalker 16 = .ok (.invokevirtual 118, 3) := by decide +kernel
theorem dX7_readWalker_19 : decode cX7_readWalker 19 = .ok (.aload_n 0, 1) := by decide +kernel
theorem dX7_readWalker_20 : decode cX7_readWalker 20 = .ok (.aload_n 0, 1) := by decide +kernel
theorem dX7_readWalker_21 : decode cX7_readWalker 21 = .ok (.getfield 39, 3) := by decide +kernel
theorem dX7_readWalker_24 : decode cX7_readWalker 24 = .ok (.iload_n 1, 1) := by decide +kernel
theorem dX7_readWalker_25 : decode cX7_readWalker 25 = .ok (.iconst 1, 1) := by decide +kernel
theorem dX7_readWalker_26 : decode cX7_readWalker 26 = .ok (.iadd, 1) := by decide +kernel
theorem dX7_readWalker_27 : decode cX7_readWalker 27 = .ok (.iconst 1, 1) := by decide +kernel
theorem dX7_readWalker_28 : decode cX7_readWalker 28 = .ok (.bipush 40, 2) := by decide +kernel
theorem dX7_readWalker_30 : decode cX7_readWalker 30 = .ok (.invokevirtual 118, 3) := by decide +kernel
theorem dX7_readWalker_33 : decode cX7_readWalker 33 = .ok (.aload_n 0, 1) := by decide +kernel
theorem dX7_readWalker_34 : decode cX7_readWalker 34 = .ok (.dup, 1) := by decide +kernel
theorem dX7_readWalker_35 : decode cX7_readWalker 35 = .ok (.getfield 115, 3) := by decide +kernel
theorem dX7_readWalker_38 : decode cX7_readWalker 38 = .ok (.iconst 1, 1) := by decide +kernel
theorem dX7_readWalker_39 : decode cX7_readWalker 39 = .ok (.iadd, 1) := by decide +kernel
theorem dX7_readWalker_40 : decode cX7_readWalker 40 = .ok (.putfield 115, 3) := by decide +kernel
theorem dX7_readWalker_43 : decode cX7_readWalker 43 = .ok (.return_, 1) := by decide +kernel
theorem dX7_readStretch_0 : decode cX7_readStretch 0 = .ok (.iconst 4, 1) := by decide +kernel
theorem dX7_readStretch_1 : decode cX7_readStretch 1 = .ok (.aload_n 0, 1) := by decide +kernel
theorem dX7_readStretch_2 : decode cX7_readStretch 2 = .ok (.getfield 122, 3) := by decide +kernel
theorem dX7_readStretch_5 : decode cX7_readStretch 5 = .ok (.imul, 1) := by decide +kernel
theorem dX7_readStretch_6 : decode cX7_readStretch 6 = .ok (.istore_n 1, 1) := by decide +kernel
theorem dX7_readStretch_7 : decode cX7_readStretch 7 = .ok (.aload_n 0, 1) := by decide +kernel
theorem dX7_readStretch_8 : decode cX7_readStretch 8 = .ok (.aload_n 0, 1) := by decide +kernel
theorem dX7_readStretch_9 : decode cX7_readStretch 9 = .ok (.getfield 42, 3) := by decide +kernel
theorem dX7_readStretch_12 : decode cX7_readStretch 12 = .ok (.iload_n 1, 1) := by decide +kernel
theorem dX7_readStretch_13 : decode cX7_readStretch 13 = .ok (.iconst 1, 1) := by decide +kernel
theorem dX7_readStretch_14 : decode cX7_readStretch 14 = .ok (.bipush 9, 2) := by decide +kernel
theorem dX7_readStretch_16 : decode cX7_readStretch 16 = .ok (.invokevirtual 118, 3) := by decide +kernel
theorem dX7_readStretch_19 : decode cX7_readStretch 19 = .ok (.aload_n 0, 1) := by decide +kernel
theorem dX7_readStretch_20 : decode cX7_readStretch 20 = .ok (.aload_n 0, 1) := by decide +kernel
theorem dX7_readStretch_21 : decode cX7_readStretch 21 = .ok (.getfield 42, 3) := by decide +kernel
theorem dX7_readStretch_24 : decode cX7_readStretch 24 = .ok (.iload_n 1, 1) := by decide +kernel
theorem dX7_readStretch_25 : decode cX7_readStretch 25 = .ok (.iconst 1, 1) := by decide +kernel
theorem dX7_readStretch_26 : decode cX7_readStretch 26 = .ok (.iadd, 1) := by decide +kernel
theorem dX7_readStretch_27 : decode cX7_readStretch 27 = .ok (.iconst 2, 1) := by decide +kernel
theorem dX7_readStretch_28 : decode cX7_readStretch 28 = .ok (.bipush 18, 2) := by decide +kernel
theorem dX7_readStretch_30 : decode cX7_readStretch 30 = .ok (.invokevirtual 118, 3) := by decide +kernel
theorem dX7_readStretch_33 : decode cX7_readStretch 33 = .ok (.aload_n 0, 1) := by decide +kernel
theorem dX7_readStretch_34 : decode cX7_readStretch 34 = .ok (.aload_n 0, 1) := by decide +kernel
theorem dX7_readStretch_35 : decode cX7_readStretch 35 = .ok (.getfield 42, 3) := by decide +kernel
theorem dX7_readStretch_38 : decode cX7_readStretch 38 = .ok (.iload_n 1, 1) := by decide +kernel
theorem dX7_readStretch_39 : decode cX7_readStretch 39 = .ok (.iconst 2, 1) := by decide +kernel
theorem dX7_readStretch_40 : decode cX7_readStretch 40 = .ok (.iadd, 1) := by decide +kernel
theorem dX7_readStretch_41 : decode cX7_readStretch 41 = .ok (.iconst 0, 1) := by decide +kernel
theorem dX7_readStretch_42 : decode cX7_readStretch 42 = .ok (.iconst 1, 1) := by decide +kernel
theorem dX7_readStretch_43 : decode cX7_readStretch 43 = .ok (.invokevirtual 118, 3) := by decide +kernel
theorem dX7_readStretch_46 : decode cX7_readStretch 46 = .ok (.aload_n 0, 1) := by decide +kernel
theorem dX7_readStretch_47 : decode cX7_readStretch 47 = .ok (.aload_n 0, 1) := by decide +kernel
theorem dX7_readStretch_48 : decode cX7_readStretch 48 = .ok (.getfield 42, 3) := by decide +kernel
theorem dX7_readStretch_51 : decode cX7_readStretch 51 = .ok (.iload_n 1, 1) := by decide +kernel
theorem dX7_readStretch_52 : decode cX7_readStretch 52 = .ok (.iconst 3, 1) := by decide +kernel
theorem dX7_readStretch_53 : decode cX7_readStretch 53 = .ok (.iadd, 1) := by decide +kernel
theorem dX7_readStretch_54 : decode cX7_readStretch 54 = .ok (.iconst 0, 1) := by decide +kernel
theorem dX7_readStretch_55 : decode cX7_readStretch 55 = .ok (.iconst 1, 1) := by decide +kernel
theorem dX7_readStretch_56 : decode cX7_readStretch 56 = .ok (.invokevirtual 118, 3) := by decide +kernel
theorem dX7_readStretch_59 : decode cX7_readStretch 59 = .ok (.aload_n 0, 1) := by decide +kernel
theorem dX7_readStretch_60 : decode cX7_readStretch 60 = .ok (.dup, 1) := by decide +kernel
theorem dX7_readStretch_61 : decode cX7_readStretch 61 = .ok (.getfield 122, 3) := by decide +kernel
theorem dX7_readStretch_64 : decode cX7_readStretch 64 = .ok (.iconst 1, 1) := by decide +kernel
theorem dX7_readStretch_65 : decode cX7_readStretch 65 = .ok (.iadd, 1) := by decide +kernel
theorem dX7_readStretch_66 : decode cX7_readStretch 66 = .ok (.putfield 122, 3) := by decide +kernel
theorem dX7_readStretch_69 : decode cX7_readStretch 69 = .ok (.return_, 1) := by decide +kernel
theorem dX7_readItem_0 : decode cX7_readItem 0 = .ok (.aload_n 0, 1) := by decide +kernel
theorem dX7_readItem_1 : decode cX7_readItem 1 = .ok (.getfield 99, 3) := by decide +kernel
theorem dX7_readItem_4 : decode cX7_readItem 4 = .ok (.iconst 1, 1) := by decide +kernel
theorem dX7_readItem_5 : decode cX7_readItem 5 = .ok (.if_icmp .ne 10, 3) := by decide +kernel
theorem dX7_readItem_8 : decode cX7_readItem 8 = .ok (.aload_n 0, 1) := by decide +kernel
theorem dX7_readItem_9 : decode cX7_readItem 9 = .ok (.getfield 96, 3) := by decide +kernel
theorem dX7_readItem_12 : decode cX7_readItem 12 = .ok (.goto 4, 3) := by decide +kernel
theorem dX7_readItem_15 : decode cX7_readItem 15 = .ok (.iconst 0, 1) := by decide +kernel
theorem dX7_readItem_16 : decode cX7_readItem 16 = .ok (.istore_n 1, 1) := by decide +kernel
theorem dX7_readItem_17 : decode cX7_readItem 17 = .ok (.iload_n 1, 1) := by decide +kernel
theorem dX7_readItem_18 : decode cX7_readItem 18 = .ok (.bipush 119, 2) := by decide +kernel
theorem dX7_readItem_20 : decode cX7_readItem 20 = .ok (.if_icmp .ne 11, 3) := by decide +kernel
theorem dX7_readItem_23 : decode cX7_readItem 23 = .ok (.aload_n 0, 1) := by decide +kernel
theorem dX7_readItem_24 : decode cX7_readItem 24 = .ok (.getfield 115, 3) := by decide +kernel
theorem dX7_readItem_27 : decode cX7_readItem 27 = .ok (.iconst 4, 1) := by decide +kernel
theorem dX7_readItem_28 : decode cX7_readItem 28 = .ok (.if_icmp .lt 48, 3) := by decide +kernel
theorem dX7_readItem_31 : decode cX7_readItem 31 = .ok (.iload_n 1, 1) := by decide +kernel
theorem dX7_readItem_32 : decode cX7_readItem 32 = .ok (.bipush 116, 2) := by decide +kernel
theorem dX7_readItem_34 : decode cX7_readItem 34 = .ok (.if_icmp .ne 12, 3) := by decide +kernel
theorem dX7_readItem_37 : decode cX7_readItem 37 = .ok (.aload_n 0, 1) := by decide +kernel
theorem dX7_readItem_38 : decode cX7_readItem 38 = .ok (.getfield 122, 3) := by decide +kernel
theorem dX7_readItem_41 : decode cX7_readItem 41 = .ok (.bipush 6, 2) := by decide +kernel
theorem dX7_readItem_43 : decode cX7_readItem 43 = .ok (.if_icmp .lt 33, 3) := by decide +kernel
theorem dX7_readItem_46 : decode cX7_readItem 46 = .ok (.iload_n 1, 1) := by decide +kernel
theorem dX7_readItem_47 : decode cX7_readItem 47 = .ok (.bipush 99, 2) := by decide +kernel
theorem dX7_readItem_49 : decode cX7_readItem 49 = .ok (.if_icmp .ne 12, 3) := by decide +kernel
theorem dX7_readItem_52 : decode cX7_readItem 52 = .ok (.aload_n 0, 1) := by decide +kernel
theorem dX7_readItem_53 : decode cX7_readItem 53 = .ok (.getfield 45, 3) := by decide +kernel
theorem dX7_readItem_56 : decode cX7_readItem 56 = .ok (.iconst 0, 1) := by decide +kernel
theorem dX7_readItem_57 : decode cX7_readItem 57 = .ok (.iaload, 1) := by decide +kernel
theorem dX7_readItem_58 : decode cX7_readItem 58 = .ok (.ifCond .lt 18, 3) := by decide +kernel
theorem dX7_readItem_61 : decode cX7_readItem 61 = .ok (.iload_n 1, 1) := by decide +kernel
theorem dX7_readItem_62 : decode cX7_readItem 62 = .ok (.bipush 104, 2) := by decide +kernel
theorem dX7_readItem_64 : decode cX7_readItem 64 = .ok (.if_icmp .ne 16, 3) := by decide +kernel
theorem dX7_readItem_67 : decode cX7_readItem 67 = .ok (.aload_n 0, 1) := by decide +kernel
theorem dX7_readItem_68 : decode cX7_readItem 68 = .ok (.getfield 45, 3) := by decide +kernel
theorem dX7_readItem_71 : decode cX7_readItem 71 = .ok (.iconst 1, 1) := by decide +kernel
theorem dX7_readItem_72 : decode cX7_readItem 72 = .ok (.iaload, 1) := by decide +kernel
theorem dX7_readItem_73 : decode cX7_readItem 73 = .ok (.ifCond .ge 7, 3) := by decide +kernel
theorem dX7_readItem_76 : decode cX7_readItem 76 = .ok (.iconst 1, 1) := by decide +kernel
theorem dX7_readItem_77 : decode cX7_readItem 77 = .ok (.goto 4, 3) := by decide +kernel
theorem dX7_readItem_80 : decode cX7_readItem 80 = .ok (.iconst 0, 1) := by decide +kernel
theorem dX7_readItem_81 : decode cX7_readItem 81 = .ok (.istore_n 2, 1) := by decide +kernel
theorem dX7_readItem_82 : decode cX7_readItem 82 = .ok (.iload_n 2, 1) := by decide +kernel
theorem dX7_readItem_83 : decode cX7_readItem 83 = .ok (.ifCond .ne 9, 3) := by decide +kernel
theorem dX7_readItem_86 : decode cX7_readItem 86 = .ok (.aload_n 0, 1) := by decide +kernel
theorem dX7_readItem_87 : decode cX7_readItem 87 = .ok (.iconst 1, 1) := by decide +kernel
theorem dX7_readItem_88 : decode cX7_readItem 88 = .ok (.putfield 108, 3) := by decide +kernel
theorem dX7_readItem_91 : decode cX7_readItem 91 = .ok (.return_, 1) := by decide +kernel
theorem dX7_readItem_92 : decode cX7_readItem 92 = .ok (.aload_n 0, 1) := by decide +kernel
theorem dX7_readItem_93 : decode cX7_readItem 93 = .ok (.invokevirtual 112, 3) := by decide +kernel
theorem dX7_readItem_96 : decode cX7_readItem 96 = .ok (.iload_n 1, 1) := by decide +kernel
theorem dX7_readItem_97 : decode cX7_readItem 97 = .ok (.bipush 119, 2) := by decide +kernel
theorem dX7_readItem_99 : decode cX7_readItem 99 = .ok (.if_icmp .ne 10, 3) := by decide +kernel
theorem dX7_readItem_102 : decode cX7_readItem 102 = .ok (.aload_n 0, 1) := by decide +kernel
theorem dX7_readItem_103 : decode cX7_readItem 103 = .ok (.invokevirtual 125, 3) := by decide +kernel
theorem dX7_readItem_106 : decode cX7_readItem 106 = .ok (.goto 50, 3) := by decide +kernel
theorem dX7_readItem_109 : decode cX7_readItem 109 = .ok (.iload_n 1, 1) := by decide +kernel
theorem dX7_readItem_110 : decode cX7_readItem 110 = .ok (.bipush 116, 2) := by decide +kernel
theorem dX7_readItem_112 : decode cX7_readItem 112 = .ok (.if_icmp .ne 10, 3) := by decide +kernel
theorem dX7_readItem_115 : decode cX7_readItem 115 = .ok (.aload_n 0, 1) := by decide +kernel
theorem dX7_readItem_116 : decode cX7_readItem 116 = .ok (.invokevirtual 128, 3) := by decide +kernel
theorem dX7_readItem_119 : decode cX7_readItem 119 = .ok (.goto 37, 3) := by decide +kernel
theorem dX7_readItem_122 : decode cX7_readItem 122 = .ok (.iload_n 1, 1) := by decide +kernel
theorem dX7_readItem_123 : decode cX7_readItem 123 = .ok (.bipush 99, 2) := by decide +kernel
theorem dX7_readItem_125 : decode cX7_readItem 125 = .ok (.if_icmp .ne 18, 3) := by decide +kernel
theorem dX7_readItem_128 : decode cX7_readItem 128 = .ok (.aload_n 0, 1) := by decide +kernel
theorem dX7_readItem_129 : decode cX7_readItem 129 = .ok (.aload_n 0, 1) := by decide +kernel
theorem dX7_readItem_130 : decode cX7_readItem 130 = .ok (.getfield 45, 3) := by decide +kernel
theorem dX7_readItem_133 : decode cX7_readItem 133 = .ok (.iconst 0, 1) := by decide +kernel
theorem dX7_readItem_134 : decode cX7_readItem 134 = .ok (.iconst 0, 1) := by decide +kernel
theorem dX7_readItem_135 : decode cX7_readItem 135 = .ok (.bipush 9, 2) := by decide +kernel
theorem dX7_readItem_137 : decode cX7_readItem 137 = .ok (.invokevirtual 118, 3) := by decide +kernel
theorem dX7_readItem_140 : decode cX7_readItem 140 = .ok (.goto 16, 3) := by decide +kernel
theorem dX7_readItem_143 : decode cX7_readItem 143 = .ok (.aload_n 0, 1) := by decide +kernel
theorem dX7_readItem_144 : decode cX7_readItem 144 = .ok (.aload_n 0, 1) := by decide +kernel
theorem dX7_readItem_145 : decode cX7_readItem 145 = .ok (.getfield 45, 3) := by decide +kernel
theorem dX7_readItem_148 : decode cX7_readItem 148 = .ok (.iconst 1, 1) := by decide +kernel
theorem dX7_readItem_149 : decode cX7_readItem 149 = .ok (.bipush 10, 2) := by decide +kernel
theorem dX7_readItem_151 : decode cX7_readItem 151 = .ok (.bipush 99, 2) := by decide +kernel
theorem dX7_readItem_153 : decode cX7_readItem 153 = .ok (.invokevirtual 118, 3) := by decide +kernel
theorem dX7_readItem_156 : decode cX7_readItem 156 = .ok (.aload_n 0, 1) := by decide +kernel
theorem dX7_readItem_157 : decode cX7_readItem 157 = .ok (.aload_n 0, 1) := by decide +kernel
theorem dX7_readItem_158 : decode cX7_readItem 158 = .ok (.getfield 108, 3) := by decide +kernel
theorem dX7_readItem_161 : decode cX7_readItem 161 = .ok (.ifCond .ne 11, 3) := by decide +kernel
theorem dX7_readItem_164 : decode cX7_readItem 164 = .ok (.aload_n 0, 1) := by decide +kernel
theorem dX7_readItem_165 : decode cX7_readItem 165 = .ok (.getfield 99, 3) := by decide +kernel
theorem dX7_readItem_168 : decode cX7_readItem 168 = .ok (.iconst 3, 1) := by decide +kernel
theorem dX7_readItem_169 : decode cX7_readItem 169 = .ok (.if_icmp .eq 7, 3) := by decide +kernel
theorem dX7_readItem_172 : decode cX7_readItem 172 = .ok (.iconst 1, 1) := by decide +kernel
theorem dX7_readItem_173 : decode cX7_readItem 173 = .ok (.goto 4, 3) := by decide +kernel
theorem dX7_readItem_176 : decode cX7_readItem 176 = .ok (.iconst 0, 1) := by decide +kernel
theorem dX7_readItem_177 : decode cX7_readItem 177 = .ok (.putfield 108, 3) := by decide +kernel
theorem dX7_readItem_180 : decode cX7_readItem 180 = .ok (.aload_n 0, 1) := by decide +kernel
theorem dX7_readItem_181 : decode cX7_readItem 181 = .ok (.getfield 108, 3) := by decide +kernel
theorem dX7_readItem_184 : decode cX7_readItem 184 = .ok (.ifCond .ne 7, 3) := by decide +kernel
theorem dX7_readItem_187 : decode cX7_readItem 187 = .ok (.aload_n 0, 1) := by decide +kernel
theorem dX7_readItem_188 : decode cX7_readItem 188 = .ok (.invokevirtual 112, 3) := by decide +kernel
theorem dX7_readItem_191 : decode cX7_readItem 191 = .ok (.return_, 1) := by decide +kernel
theorem dX7_tunnel_0 : decode cX7_tunnel 0 = .ok (.aload_n 0, 1) := by decide +kernel
theorem dX7_tunnel_1 : decode cX7_tunnel 1 = .ok (.iconst 0, 1) := by decide +kernel
theorem dX7_tunnel_2 : decode cX7_tunnel 2 = .ok (.putfield 86, 3) := by decide +kernel
theorem dX7_tunnel_5 : decode cX7_tunnel 5 = .ok (.aload_n 0, 1) := by decide +kernel
theorem dX7_tunnel_6 : decode cX7_tunnel 6 = .ok (.iconst 0, 1) := by decide +kernel
theorem dX7_tunnel_7 : decode cX7_tunnel 7 = .ok (.putfield 108, 3) := by decide +kernel
theorem dX7_tunnel_10 : decode cX7_tunnel 10 = .ok (.aload_n 0, 1) := by decide +kernel
theorem dX7_tunnel_11 : decode cX7_tunnel 11 = .ok (.iconst 0, 1) := by decide +kernel
theorem dX7_tunnel_12 : decode cX7_tunnel 12 = .ok (.putfield 115, 3) := by decide +kernel
theorem dX7_tunnel_15 : decode cX7_tunnel 15 = .ok (.aload_n 0, 1) := by decide +kernel
theorem dX7_tunnel_16 : decode cX7_tunnel 16 = .ok (.iconst 0, 1) := by decide +kernel
theorem dX7_tunnel_17 : decode cX7_tunnel 17 = .ok (.putfield 122, 3) := by decide +kernel
theorem dX7_tunnel_20 : decode cX7_tunnel 20 = .ok (.aload_n 0, 1) := by decide +kernel
theorem dX7_tunnel_21 : decode cX7_tunnel 21 = .ok (.getfield 45, 3) := by decide +kernel
theorem dX7_tunnel_24 : decode cX7_tunnel 24 = .ok (.iconst 0, 1) := by decide +kernel
theorem dX7_tunnel_25 : decode cX7_tunnel 25 = .ok (.iconst (-1), 1) := by decide +kernel
theorem dX7_tunnel_26 : decode cX7_tunnel 26 = .ok (.iastore, 1) := by decide +kernel
theorem dX7_tunnel_27 : decode cX7_tunnel 27 = .ok (.aload_n 0, 1) := by decide +kernel
theorem dX7_tunnel_28 : decode cX7_tunnel 28 = .ok (.getfield 45, 3) := by decide +kernel
theorem dX7_tunnel_31 : decode cX7_tunnel 31 = .ok (.iconst 1, 1) := by decide +kernel
theorem dX7_tunnel_32 : decode cX7_tunnel 32 = .ok (.iconst (-1), 1) := by decide +kernel
theorem dX7_tunnel_33 : decode cX7_tunnel 33 = .ok (.iastore, 1) := by decide +kernel
theorem dX7_tunnel_34 : decode cX7_tunnel 34 = .ok (.iconst 0, 1) := by decide +kernel
theorem dX7_tunnel_35 : decode cX7_tunnel 35 = .ok (.istore_n 1, 1) := by decide +kernel
theorem dX7_tunnel_36 : decode cX7_tunnel 36 = .ok (.aload_n 0, 1) := by decide +kernel
theorem dX7_tunnel_37 : decode cX7_tunnel 37 = .ok (.invokevirtual 112, 3) := by decide +kernel
theorem dX7_tunnel_40 : decode cX7_tunnel 40 = .ok (.aload_n 0, 1) := by decide +kernel
theorem dX7_tunnel_41 : decode cX7_tunnel 41 = .ok (.getfield 99, 3) := by decide +kernel
theorem dX7_tunnel_44 : decode cX7_tunnel 44 = .ok (.ifCond .eq 20, 3) := by decide +kernel
theorem dX7_tunnel_47 : decode cX7_tunnel 47 = .ok (.aload_n 0, 1) := by decide +kernel
theorem dX7_tunnel_48 : decode cX7_tunnel 48 = .ok (.getfield 108, 3) := by decide +kernel
theorem dX7_tunnel_51 : decode cX7_tunnel 51 = .ok (.ifCond .ne 13, 3) := by decide +kernel
theorem dX7_tunnel_54 : decode cX7_tunnel 54 = .ok (.aload_n 0, 1) := by decide +kernel
theorem dX7_tunnel_55 : decode cX7_tunnel 55 = .ok (.invokevirtual 131, 3) := by decide +kernel
theorem dX7_tunnel_58 : decode cX7_tunnel 58 = .ok (.iinc 1 1, 3) := by decide +kernel
theorem dX7_tunnel_61 : decode cX7_tunnel 61 = .ok (.goto (-21), 3) := by decide +kernel
theorem dX7_tunnel_64 : decode cX7_tunnel 64 = .ok (.aload_n 0, 1) := by decide +kernel
theorem dX7_tunnel_65 : decode cX7_tunnel 65 = .ok (.getfield 108, 3) := by decide +kernel
theorem dX7_tunnel_68 : decode cX7_tunnel 68 = .ok (.ifCond .eq 11, 3) := by decide +kernel
theorem dX7_tunnel_71 : decode cX7_tunnel 71 = .ok (.bipush (-10), 2) := by decide +kernel
theorem dX7_tunnel_73 : decode cX7_tunnel 73 = .ok (.aload_n 0, 1) := by decide +kernel
theorem dX7_tunnel_74 : decode cX7_tunnel 74 = .ok (.getfield 93, 3) := by decide +kernel
theorem dX7_tunnel_77 : decode cX7_tunnel 77 = .ok (.isub, 1) := by decide +kernel
theorem dX7_tunnel_78 : decode cX7_tunnel 78 = .ok (.ireturn, 1) := by decide +kernel
theorem dX7_tunnel_79 : decode cX7_tunnel 79 = .ok (.aload_n 0, 1) := by decide +kernel
theorem dX7_tunnel_80 : decode cX7_tunnel 80 = .ok (.aload_n 0, 1) := by decide +kernel
theorem dX7_tunnel_81 : decode cX7_tunnel 81 = .ok (.getfield 115, 3) := by decide +kernel
theorem dX7_tunnel_84 : decode cX7_tunnel 84 = .ok (.putfield 69, 3) := by decide +kernel
theorem dX7_tunnel_87 : decode cX7_tunnel 87 = .ok (.aload_n 0, 1) := by decide +kernel
theorem dX7_tunnel_88 : decode cX7_tunnel 88 = .ok (.aload_n 0, 1) := by decide +kernel
theorem dX7_tunnel_89 : decode cX7_tunnel 89 = .ok (.getfield 122, 3) := by decide +kernel
theorem dX7_tunnel_92 : decode cX7_tunnel 92 = .ok (.putfield 76, 3) := by decide +kernel
theorem dX7_tunnel_95 : decode cX7_tunnel 95 = .ok (.aload_n 0, 1) := by decide +kernel
theorem dX7_tunnel_96 : decode cX7_tunnel 96 = .ok (.aload_n 0, 1) := by decide +kernel
theorem dX7_tunnel_97 : decode cX7_tunnel 97 = .ok (.getfield 45, 3) := by decide +kernel
theorem dX7_tunnel_100 : decode cX7_tunnel 100 = .ok (.iconst 0, 1) := by decide +kernel
theorem dX7_tunnel_101 : decode cX7_tunnel 101 = .ok (.iaload, 1) := by decide +kernel
theorem dX7_tunnel_102 : decode cX7_tunnel 102 = .ok (.ifCond .ge 7, 3) := by decide +kernel
theorem dX7_tunnel_105 : decode cX7_tunnel 105 = .ok (.iconst 1, 1) := by decide +kernel
theorem dX7_tunnel_106 : decode cX7_tunnel 106 = .ok (.goto 9, 3) := by decide +kernel
theorem dX7_tunnel_109 : decode cX7_tunnel 109 = .ok (.aload_n 0, 1) := by decide +kernel
theorem dX7_tunnel_110 : decode cX7_tunnel 110 = .ok (.getfield 45, 3) := by decide +kernel
theorem dX7_tunnel_113 : decode cX7_tunnel 113 = .ok (.iconst 0, 1) := by decide +kernel
theorem dX7_tunnel_114 : decode cX7_tunnel 114 = .ok (.iaload, 1) := by decide +kernel
theorem dX7_tunnel_115 : decode cX7_tunnel 115 = .ok (.putfield 16, 3) := by decide +kernel
theorem dX7_tunnel_118 : decode cX7_tunnel 118 = .ok (.aload_n 0, 1) := by decide +kernel
theorem dX7_tunnel_119 : decode cX7_tunnel 119 = .ok (.aload_n 0, 1) := by decide +kernel
theorem dX7_tunnel_120 : decode cX7_tunnel 120 = .ok (.getfield 45, 3) := by decide +kernel
theorem dX7_tunnel_123 : decode cX7_tunnel 123 = .ok (.iconst 1, 1) := by decide +kernel
theorem dX7_tunnel_124 : decode cX7_tunnel 124 = .ok (.iaload, 1) := by decide +kernel
theorem dX7_tunnel_125 : decode cX7_tunnel 125 = .ok (.ifCond .ge 7, 3) := by decide +kernel
theorem dX7_tunnel_128 : decode cX7_tunnel 128 = .ok (.iconst 0, 1) := by decide +kernel
theorem dX7_tunnel_129 : decode cX7_tunnel 129 = .ok (.goto 9, 3) := by decide +kernel
theorem dX7_tunnel_132 : decode cX7_tunnel 132 = .ok (.aload_n 0, 1) := by decide +kernel
theorem dX7_tunnel_133 : decode cX7_tunnel 133 = .ok (.getfield 45, 3) := by decide +kernel
theorem dX7_tunnel_136 : decode cX7_tunnel 136 = .ok (.iconst 1, 1) := by decide +kernel
theorem dX7_tunnel_137 : decode cX7_tunnel 137 = .ok (.iaload, 1) := by decide +kernel
theorem dX7_tunnel_138 : decode cX7_tunnel 138 = .ok (.putfield 134, 3) := by decide +kernel
theorem dX7_tunnel_141 : decode cX7_tunnel 141 = .ok (.iconst 0, 1) := by decide +kernel
theorem dX7_tunnel_142 : decode cX7_tunnel 142 = .ok (.istore_n 2, 1) := by decide +kernel
theorem dX7_tunnel_143 : decode cX7_tunnel 143 = .ok (.iload_n 2, 1) := by decide +kernel
theorem dX7_tunnel_144 : decode cX7_tunnel 144 = .ok (.bipush 8, 2) := by decide +kernel
theorem dX7_tunnel_146 : decode cX7_tunnel 146 = .ok (.if_icmp .ge 21, 3) := by decide +kernel
theorem dX7_tunnel_149 : decode cX7_tunnel 149 = .ok (.aload_n 0, 1) := by decide +kernel
theorem dX7_tunnel_150 : decode cX7_tunnel 150 = .ok (.getfield 7, 3) := by decide +kernel
theorem dX7_tunnel_153 : decode cX7_tunnel 153 = .ok (.iload_n 2, 1) := by decide +kernel
theorem dX7_tunnel_154 : decode cX7_tunnel 154 = .ok (.aload_n 0, 1) := by decide +kernel
theorem dX7_tunnel_155 : decode cX7_tunnel 155 = .ok (.getfield 39, 3) := by decide +kernel
theorem dX7_tunnel_158 : decode cX7_tunnel 158 = .ok (.iload_n 2, 1) := by decide +kernel
theorem dX7_tunnel_159 : decode cX7_tunnel 159 = .ok (.iaload, 1) := by decide +kernel
theorem dX7_tunnel_160 : decode cX7_tunnel 160 = .ok (.iastore, 1) := by decide +kernel
theorem dX7_tunnel_161 : decode cX7_tunnel 161 = .ok (.iinc 2 1, 3) := by decide +kernel
theorem dX7_tunnel_164 : decode cX7_tunnel 164 = .ok (.goto (-21), 3) := by decide +kernel
theorem dX7_tunnel_167 : decode cX7_tunnel 167 = .ok (.iconst 0, 1) := by decide +kernel
theorem dX7_tunnel_168 : decode cX7_tunnel 168 = .ok (.istore_n 2, 1) := by decide +kernel
theorem dX7_tunnel_169 : decode cX7_tunnel 169 = .ok (.iload_n 2, 1) := by decide +kernel
theorem dX7_tunnel_170 : decode cX7_tunnel 170 = .ok (.bipush 24, 2) := by decide +kernel
theorem dX7_tunnel_172 : decode cX7_tunnel 172 = .ok (.if_icmp .ge 21, 3) := by decide +kernel
theorem dX7_tunnel_175 : decode cX7_tunnel 175 = .ok (.aload_n 0, 1) := by decide +kernel
theorem dX7_tunnel_176 : decode cX7_tunnel 176 = .ok (.getfield 13, 3) := by decide +kernel
theorem dX7_tunnel_179 : decode cX7_tunnel 179 = .ok (.iload_n 2, 1) := by decide +kernel
theorem dX7_tunnel_180 : decode cX7_tunnel 180 = .ok (.aload_n 0, 1) := by decide +kernel
theorem dX7_tunnel_181 : decode cX7_tunnel 181 = .ok (.getfield 42, 3) := by decide +kernel
theorem dX7_tunnel_184 : decode cX7_tunnel 184 = .ok (.iload_n 2, 1) := by decide +kernel
theorem dX7_tunnel_185 : decode cX7_tunnel 185 = .ok (.iaload, 1) := by decide +kernel
theorem dX7_tunnel_186 : decode cX7_tunnel 186 = .ok (.iastore, 1) := by decide +kernel
theorem dX7_tunnel_187 : decode cX7_tunnel 187 = .ok (.iinc 2 1, 3) := by decide +kernel
theorem dX7_tunnel_190 : decode cX7_tunnel 190 = .ok (.goto (-21), 3) := by decide +kernel
theorem dX7_tunnel_193 : decode cX7_tunnel 193 = .ok (.aload_n 0, 1) := by decide +kernel
theorem dX7_tunnel_194 : decode cX7_tunnel 194 = .ok (.invokevirtual 66, 3) := by decide +kernel
theorem dX7_tunnel_197 : decode cX7_tunnel 197 = .ok (.aload_n 0, 1) := by decide +kernel
theorem dX7_tunnel_198 : decode cX7_tunnel 198 = .ok (.iconst 0, 1) := by decide +kernel
theorem dX7_tunnel_199 : decode cX7_tunnel 199 = .ok (.putfield 137, 3) := by decide +kernel
theorem dX7_tunnel_202 : decode cX7_tunnel 202 = .ok (.aload_n 0, 1) := by decide +kernel
theorem dX7_tunnel_203 : decode cX7_tunnel 203 = .ok (.iconst 0, 1) := by decide +kernel
theorem dX7_tunnel_204 : decode cX7_tunnel 204 = .ok (.putfield 140, 3) := by decide +kernel
theorem dX7_tunnel_207 : decode cX7_tunnel 207 = .ok (.aload_n 0, 1) := by decide +kernel
theorem dX7_tunnel_208 : decode cX7_tunnel 208 = .ok (.getfield 29, 3) := by decide +kernel
theorem dX7_tunnel_211 : decode cX7_tunnel 211 = .ok (.iconst 0, 1) := by decide +kernel
theorem dX7_tunnel_212 : decode cX7_tunnel 212 = .ok (.iconst 0, 1) := by decide +kernel
theorem dX7_tunnel_213 : decode cX7_tunnel 213 = .ok (.bastore, 1) := by decide +kernel
theorem dX7_tunnel_214 : decode cX7_tunnel 214 = .ok (.aload_n 0, 1) := by decide +kernel
theorem dX7_tunnel_215 : decode cX7_tunnel 215 = .ok (.getfield 29, 3) := by decide +kernel
theorem dX7_tunnel_218 : decode cX7_tunnel 218 = .ok (.iconst 1, 1) := by decide +kernel
theorem dX7_tunnel_219 : decode cX7_tunnel 219 = .ok (.iconst 0, 1) := by decide +kernel
theorem dX7_tunnel_220 : decode cX7_tunnel 220 = .ok (.bastore, 1) := by decide +kernel
theorem dX7_tunnel_221 : decode cX7_tunnel 221 = .ok (.aload_n 0, 1) := by decide +kernel
theorem dX7_tunnel_222 : decode cX7_tunnel 222 = .ok (.iconst 0, 1) := by decide +kernel
theorem dX7_tunnel_223 : decode cX7_tunnel 223 = .ok (.putfield 83, 3) := by decide +kernel
theorem dX7_tunnel_226 : decode cX7_tunnel 226 = .ok (.iload_n 1, 1) := by decide +kernel
theorem dX7_tunnel_227 : decode cX7_tunnel 227 = .ok (.ireturn, 1) := by decide +kernel
theorem dX7_isWorn_0 : decode cX7_isWorn 0 = .ok (.aload_n 0, 1) := by decide +kernel
theorem dX7_isWorn_1 : decode cX7_isWorn 1 = .ok (.getfield 48, 3) := by decide +kernel
theorem dX7_isWorn_4 : decode cX7_isWorn 4 = .ok (.iconst 4, 1) := by decide +kernel
theorem dX7_isWorn_5 : decode cX7_isWorn 5 = .ok (.iload_n 2, 1) := by decide +kernel
theorem dX7_isWorn_6 : decode cX7_isWorn 6 = .ok (.imul, 1) := by decide +kernel
theorem dX7_isWorn_7 : decode cX7_isWorn 7 = .ok (.iload_n 1, 1) := by decide +kernel
theorem dX7_isWorn_8 : decode cX7_isWorn 8 = .ok (.iadd, 1) := by decide +kernel
theorem dX7_isWorn_9 : decode cX7_isWorn 9 = .ok (.iaload, 1) := by decide +kernel
theorem dX7_isWorn_10 : decode cX7_isWorn 10 = .ok (.aload_n 0, 1) := by decide +kernel
theorem dX7_isWorn_11 : decode cX7_isWorn 11 = .ok (.getfield 7, 3) := by decide +kernel
theorem dX7_isWorn_14 : decode cX7_isWorn 14 = .ok (.iconst 2, 1) := by decide +kernel
theorem dX7_isWorn_15 : decode cX7_isWorn 15 = .ok (.iload_n 1, 1) := by decide +kernel
theorem dX7_isWorn_16 : decode cX7_isWorn 16 = .ok (.imul, 1) := by decide +kernel
theorem dX7_isWorn_17 : decode cX7_isWorn 17 = .ok (.iconst 1, 1) := by decide +kernel
theorem dX7_isWorn_18 : decode cX7_isWorn 18 = .ok (.iadd, 1) := by decide +kernel
theorem dX7_isWorn_19 : decode cX7_isWorn 19 = .ok (.iaload, 1) := by decide +kernel
theorem dX7_isWorn_20 : decode cX7_isWorn 20 = .ok (.if_icmp .le 7, 3) := by decide +kernel
theorem dX7_isWorn_23 : decode cX7_isWorn 23 = .ok (.iconst 1, 1) := by decide +kernel
theorem dX7_isWorn_24 : decode cX7_isWorn 24 = .ok (.goto 4, 3) := by decide +kernel
theorem dX7_isWorn_27 : decode cX7_isWorn 27 = .ok (.iconst 0, 1) := by decide +kernel
theorem dX7_isWorn_28 : decode cX7_isWorn 28 = .ok (.ireturn, 1) := by decide +kernel
theorem dX7_fromNow_0 : decode cX7_fromNow 0 = .ok (.iconst 0, 1) := by decide +kernel
theorem dX7_fromNow_1 : decode cX7_fromNow 1 = .ok (.istore_n 1, 1) := by decide +kernel
theorem dX7_fromNow_2 : decode cX7_fromNow 2 = .ok (.iload_n 1, 1) := by decide +kernel
theorem dX7_fromNow_3 : decode cX7_fromNow 3 = .ok (.iconst 4, 1) := by decide +kernel
theorem dX7_fromNow_4 : decode cX7_fromNow 4 = .ok (.if_icmp .ge 23, 3) := by decide +kernel
theorem dX7_fromNow_7 : decode cX7_fromNow 7 = .ok (.aload_n 0, 1) := by decide +kernel
theorem dX7_fromNow_8 : decode cX7_fromNow 8 = .ok (.getfield 48, 3) := by decide +kernel
theorem dX7_fromNow_11 : decode cX7_fromNow 11 = .ok (.iload_n 1, 1) := by decide +kernel
theorem dX7_fromNow_12 : decode cX7_fromNow 12 = .ok (.aload_n 0, 1) := by decide +kernel
theorem dX7_fromNow_13 : decode cX7_fromNow 13 = .ok (.getfield 20, 3) := by decide +kernel
theorem dX7_fromNow_16 : decode cX7_fromNow 16 = .ok (.iconst 3, 1) := by decide +kernel
theorem dX7_fromNow_17 : decode cX7_fromNow 17 = .ok (.iload_n 1, 1) := by decide +kernel
theorem dX7_fromNow_18 : decode cX7_fromNow 18 = .ok (.iadd, 1) := by decide +kernel
theorem dX7_fromNow_19 : decode cX7_fromNow 19 = .ok (.iaload, 1) := by decide +kernel
theorem dX7_fromNow_20 : decode cX7_fromNow 20 = .ok (.iastore, 1) := by decide +kernel
theorem dX7_fromNow_21 : decode cX7_fromNow 21 = .ok (.iinc 1 1, 3) := by decide +kernel
theorem dX7_fromNow_24 : decode cX7_fromNow 24 = .ok (.goto (-22), 3) := by decide +kernel
theorem dX7_fromNow_27 : decode cX7_fromNow 27 = .ok (.aload_n 0, 1) := by decide +kernel
theorem dX7_fromNow_28 : decode cX7_fromNow 28 = .ok (.getfield 51, 3) := by decide +kernel
theorem dX7_fromNow_31 : decode cX7_fromNow 31 = .ok (.iconst 0, 1) := by decide +kernel
theorem dX7_fromNow_32 : decode cX7_fromNow 32 = .ok (.iconst 0, 1) := by decide +kernel
theorem dX7_fromNow_33 : decode cX7_fromNow 33 = .ok (.iastore, 1) := by decide +kernel
theorem dX7_fromNow_34 : decode cX7_fromNow 34 = .ok (.aload_n 0, 1) := by decide +kernel
theorem dX7_fromNow_35 : decode cX7_fromNow 35 = .ok (.getfield 54, 3) := by decide +kernel
theorem dX7_fromNow_38 : decode cX7_fromNow 38 = .ok (.iconst 0, 1) := by decide +kernel
theorem dX7_fromNow_39 : decode cX7_fromNow 39 = .ok (.aload_n 0, 1) := by decide +kernel
theorem dX7_fromNow_40 : decode cX7_fromNow 40 = .ok (.getfield 20, 3) := by decide +kernel
theorem dX7_fromNow_43 : decode cX7_fromNow 43 = .ok (.iconst 2, 1) := by decide +kernel
theorem dX7_fromNow_44 : decode cX7_fromNow 44 = .ok (.iaload, 1) := by decide +kernel
theorem dX7_fromNow_45 : decode cX7_fromNow 45 = .ok (.iastore, 1) := by decide +kernel
theorem dX7_fromNow_46 : decode cX7_fromNow 46 = .ok (.return_, 1) := by decide +kernel
theorem dX7_takesAt_0 : decode cX7_takesAt 0 = .ok (.iload_n 2, 1) := by decide +kernel
theorem dX7_takesAt_1 : decode cX7_takesAt 1 = .ok (.bipush 10, 2) := by decide +kernel
theorem dX7_takesAt_3 : decode cX7_takesAt 3 = .ok (.idiv, 1) := by decide +kernel
theorem dX7_takesAt_4 : decode cX7_takesAt 4 = .ok (.istore 4, 2) := by decide +kernel
theorem dX7_takesAt_6 : decode cX7_takesAt 6 = .ok (.iload_n 2, 1) := by decide +kernel
theorem dX7_takesAt_7 : decode cX7_takesAt 7 = .ok (.bipush 10, 2) := by decide +kernel
theorem dX7_takesAt_9 : decode cX7_takesAt 9 = .ok (.irem, 1) := by decide +kernel
theorem dX7_takesAt_10 : decode cX7_takesAt 10 = .ok (.istore 5, 2) := by decide +kernel
theorem dX7_takesAt_12 : decode cX7_takesAt 12 = .ok (.aload_n 0, 1) := by decide +kernel
theorem dX7_takesAt_13 : decode cX7_takesAt 13 = .ok (.getfield 7, 3) := by decide +kernel
theorem dX7_takesAt_16 : decode cX7_takesAt 16 = .ok (.iconst 2, 1) := by decide +kernel
theorem dX7_takesAt_17 : decode cX7_takesAt 17 = .ok (.iload 4, 2) := by decide +kernel
theorem dX7_takesAt_19 : decode cX7_takesAt 19 = .ok (.imul, 1) := by decide +kernel
theorem dX7_takesAt_20 : decode cX7_takesAt 20 = .ok (.iaload, 1) := by decide +kernel
theorem dX7_takesAt_21 : decode cX7_takesAt 21 = .ok (.aload_n 0, 1) := by decide +kernel
theorem dX7_takesAt_22 : decode cX7_takesAt 22 = .ok (.getfield 7, 3) := by decide +kernel
theorem dX7_takesAt_25 : decode cX7_takesAt 25 = .ok (.iconst 2, 1) := by decide +kernel
theorem dX7_takesAt_26 : decode cX7_takesAt 26 = .ok (.iload 5, 2) := by decide +kernel
theorem dX7_takesAt_28 : decode cX7_takesAt 28 = .ok (.imul, 1) := by decide +kernel
theorem dX7_takesAt_29 : decode cX7_takesAt 29 = .ok (.iaload, 1) := by decide +kernel
theorem dX7_takesAt_30 : decode cX7_takesAt 30 = .ok (.iadd, 1) := by decide +kernel
theorem dX7_takesAt_31 : decode cX7_takesAt 31 = .ok (.istore 6, 2) := by decide +kernel
theorem dX7_takesAt_33 : decode cX7_takesAt 33 = .ok (.aload_n 0, 1) := by decide +kernel
theorem dX7_takesAt_34 : decode cX7_takesAt 34 = .ok (.getfield 13, 3) := by decide +kernel
theorem dX7_takesAt_37 : decode cX7_takesAt 37 = .ok (.iconst 4, 1) := by decide +kernel
theorem dX7_takesAt_38 : decode cX7_takesAt 38 = .ok (.iload_n 1, 1) := by decide +kernel
theorem dX7_takesAt_39 : decode cX7_takesAt 39 = .ok (.imul, 1) := by decide +kernel
theorem dX7_takesAt_40 : decode cX7_takesAt 40 = .ok (.iconst 1, 1) := by decide +kernel
theorem dX7_takesAt_41 : decode cX7_takesAt 41 = .ok (.iadd, 1) := by decide +kernel
theorem dX7_takesAt_42 : decode cX7_takesAt 42 = .ok (.iaload, 1) := by decide +kernel
theorem dX7_takesAt_43 : decode cX7_takesAt 43 = .ok (.istore 7, 2) := by decide +kernel
theorem dX7_takesAt_45 : decode cX7_takesAt 45 = .ok (.iconst 4, 1) := by decide +kernel
theorem dX7_takesAt_46 : decode cX7_takesAt 46 = .ok (.aload_n 0, 1) := by decide +kernel
theorem dX7_takesAt_47 : decode cX7_takesAt 47 = .ok (.getfield 13, 3) := by decide +kernel
theorem dX7_takesAt_50 : decode cX7_takesAt 50 = .ok (.iconst 4, 1) := by decide +kernel
theorem dX7_takesAt_51 : decode cX7_takesAt 51 = .ok (.iload_n 1, 1) := by decide +kernel
theorem dX7_takesAt_52 : decode cX7_takesAt 52 = .ok (.imul, 1) := by decide +kernel
theorem dX7_takesAt_53 : decode cX7_takesAt 53 = .ok (.iconst 2, 1) := by decide +kernel
theorem dX7_takesAt_54 : decode cX7_takesAt 54 = .ok (.iadd, 1) := by decide +kernel
theorem dX7_takesAt_55 : decode cX7_takesAt 55 = .ok (.iaload, 1) := by decide +kernel
theorem dX7_takesAt_56 : decode cX7_takesAt 56 = .ok (.iadd, 1) := by decide +kernel
theorem dX7_takesAt_57 : decode cX7_takesAt 57 = .ok (.iload 7, 2) := by decide +kernel
theorem dX7_takesAt_59 : decode cX7_takesAt 59 = .ok (.iload 6, 2) := by decide +kernel
theorem dX7_takesAt_61 : decode cX7_takesAt 61 = .ok (.if_icmp .le 7, 3) := by decide +kernel
theorem dX7_takesAt_64 : decode cX7_takesAt 64 = .ok (.iconst 2, 1) := by decide +kernel
theorem dX7_takesAt_65 : decode cX7_takesAt 65 = .ok (.goto 4, 3) := by decide +kernel
theorem dX7_takesAt_68 : decode cX7_takesAt 68 = .ok (.iconst 0, 1) := by decide +kernel
theorem dX7_takesAt_69 : decode cX7_takesAt 69 = .ok (.iadd, 1) := by decide +kernel
theorem dX7_takesAt_70 : decode cX7_takesAt 70 = .ok (.iload 7, 2) := by decide +kernel
theorem dX7_takesAt_72 : decode cX7_takesAt 72 = .ok (.iload 6, 2) := by decide +kernel
theorem dX7_takesAt_74 : decode cX7_takesAt 74 = .ok (.iconst 4, 1) := by decide +kernel
theorem dX7_takesAt_75 : decode cX7_takesAt 75 = .ok (.isub, 1) := by decide +kernel
theorem dX7_takesAt_76 : decode cX7_takesAt 76 = .ok (.if_icmp .ge 7, 3) := by decide +kernel
theorem dX7_takesAt_79 : decode cX7_takesAt 79 = .ok (.iconst 1, 1) := by decide +kernel
theorem dX7_takesAt_80 : decode cX7_takesAt 80 = .ok (.goto 4, 3) := by decide +kernel
theorem dX7_takesAt_83 : decode cX7_takesAt 83 = .ok (.iconst 0, 1) := by decide +kernel
theorem dX7_takesAt_84 : decode cX7_takesAt 84 = .ok (.iadd, 1) := by decide +kernel
theorem dX7_takesAt_85 : decode cX7_takesAt 85 = .ok (.istore 8, 2) := by decide +kernel
theorem dX7_takesAt_87 : decode cX7_takesAt 87 = .ok (.iload 8, 2) := by decide +kernel
theorem dX7_takesAt_89 : decode cX7_takesAt 89 = .ok (.aload_n 0, 1) := by decide +kernel
theorem dX7_takesAt_90 : decode cX7_takesAt 90 = .ok (.iload 4, 2) := by decide +kernel
theorem dX7_takesAt_92 : decode cX7_takesAt 92 = .ok (.iload_n 3, 1) := by decide +kernel
theorem dX7_takesAt_93 : decode cX7_takesAt 93 = .ok (.invokevirtual 143, 3) := by decide +kernel
theorem dX7_takesAt_96 : decode cX7_takesAt 96 = .ok (.ifCond .eq 7, 3) := by decide +kernel
theorem dX7_takesAt_99 : decode cX7_takesAt 99 = .ok (.iconst 3, 1) := by decide +kernel
theorem dX7_takesAt_100 : decode cX7_takesAt 100 = .ok (.goto 4, 3) := by decide +kernel
theorem dX7_takesAt_103 : decode cX7_takesAt 103 = .ok (.iconst 0, 1) := by decide +kernel
theorem dX7_takesAt_104 : decode cX7_takesAt 104 = .ok (.aload_n 0, 1) := by decide +kernel
theorem dX7_takesAt_105 : decode cX7_takesAt 105 = .ok (.iload 5, 2) := by decide +kernel
theorem dX7_takesAt_107 : decode cX7_takesAt 107 = .ok (.iload_n 3, 1) := by decide +kernel
theorem dX7_takesAt_108 : decode cX7_takesAt 108 = .ok (.invokevirtual 143, 3) := by decide +kernel
theorem dX7_takesAt_111 : decode cX7_takesAt 111 = .ok (.ifCond .eq 7, 3) := by decide +kernel
theorem dX7_takesAt_114 : decode cX7_takesAt 114 = .ok (.iconst 3, 1) := by decide +kernel
theorem dX7_takesAt_115 : decode cX7_takesAt 115 = .ok (.goto 4, 3) := by decide +kernel
theorem dX7_takesAt_118 : decode cX7_takesAt 118 = .ok (.iconst 0, 1) := by decide +kernel
theorem dX7_takesAt_119 : decode cX7_takesAt 119 = .ok (.iadd, 1) := by decide +kernel
theorem dX7_takesAt_120 : decode cX7_takesAt 120 = .ok (.iadd, 1) := by decide +kernel
theorem dX7_takesAt_121 : decode cX7_takesAt 121 = .ok (.istore 8, 2) := by decide +kernel
theorem dX7_takesAt_123 : decode cX7_takesAt 123 = .ok (.iload 8, 2) := by decide +kernel
theorem dX7_takesAt_125 : decode cX7_takesAt 125 = .ok (.aload_n 0, 1) := by decide +kernel
theorem dX7_takesAt_126 : decode cX7_takesAt 126 = .ok (.getfield 13, 3) := by decide +kernel
theorem dX7_takesAt_129 : decode cX7_takesAt 129 = .ok (.iconst 4, 1) := by decide +kernel
theorem dX7_takesAt_130 : decode cX7_takesAt 130 = .ok (.iload_n 1, 1) := by decide +kernel
theorem dX7_takesAt_131 : decode cX7_takesAt 131 = .ok (.imul, 1) := by decide +kernel
theorem dX7_takesAt_132 : decode cX7_takesAt 132 = .ok (.iaload, 1) := by decide +kernel
theorem dX7_takesAt_133 : decode cX7_takesAt 133 = .ok (.imul, 1) := by decide +kernel
theorem dX7_takesAt_134 : decode cX7_takesAt 134 = .ok (.ireturn, 1) := by decide +kernel
theorem dX7_tires_0 : decode cX7_tires 0 = .ok (.iconst 0, 1) := by decide +kernel
theorem dX7_tires_1 : decode cX7_tires 1 = .ok (.istore 4, 2) := by decide +kernel
theorem dX7_tires_3 : decode cX7_tires 3 = .ok (.iload 4, 2) := by decide +kernel
theorem dX7_tires_5 : decode cX7_tires 5 = .ok (.iconst 4, 1) := by decide +kernel
theorem dX7_tires_6 : decode cX7_tires 6 = .ok (.if_icmp .ge 99, 3) := by decide +kernel
theorem dX7_tires_9 : decode cX7_tires 9 = .ok (.iload_n 2, 1) := by decide +kernel
theorem dX7_tires_10 : decode cX7_tires 10 = .ok (.ifCond .lt 25, 3) := by decide +kernel
theorem dX7_tires_13 : decode cX7_tires 13 = .ok (.iload 4, 2) := by decide +kernel
theorem dX7_tires_15 : decode cX7_tires 15 = .ok (.iload_n 2, 1) := by decide +kernel
theorem dX7_tires_16 : decode cX7_tires 16 = .ok (.bipush 10, 2) := by decide +kernel
theorem dX7_tires_18 : decode cX7_tires 18 = .ok (.idiv, 1) := by decide +kernel
theorem dX7_tires_19 : decode cX7_tires 19 = .ok (.if_icmp .eq 12, 3) := by decide +kernel
theorem dX7_tires_22 : decode cX7_tires 22 = .ok (.iload 4, 2) := by decide +kernel
theorem dX7_tires_24 : decode cX7_tires 24 = .ok (.iload_n 2, 1) := by decide +kernel
theorem dX7_tires_25 : decode cX7_tires 25 = .ok (.bipush 10, 2) := by decide +kernel
theorem dX7_tires_27 : decode cX7_tires 27 = .ok (.irem, 1) := by decide +kernel
theorem dX7_tires_28 : decode cX7_tires 28 = .ok (.if_icmp .ne 7, 3) := by decide +kernel
theorem dX7_tires_31 : decode cX7_tires 31 = .ok (.iconst 1, 1) := by decide +kernel
theorem dX7_tires_32 : decode cX7_tires 32 = .ok (.goto 4, 3) := by decide +kernel
theorem dX7_tires_35 : decode cX7_tires 35 = .ok (.iconst 0, 1) := by decide +kernel
theorem dX7_tires_36 : decode cX7_tires 36 = .ok (.istore 5, 2) := by decide +kernel
theorem dX7_tires_38 : decode cX7_tires 38 = .ok (.aload_n 0, 1) := by decide +kernel
theorem dX7_tires_39 : decode cX7_tires 39 = .ok (.getfield 48, 3) := by decide +kernel
theorem dX7_tires_42 : decode cX7_tires 42 = .ok (.iconst 4, 1) := by decide +kernel
theorem dX7_tires_43 : decode cX7_tires 43 = .ok (.iload_n 1, 1) := by decide +kernel
theorem dX7_tires_44 : decode cX7_tires 44 = .ok (.imul, 1) := by decide +kernel
theorem dX7_tires_45 : decode cX7_tires 45 = .ok (.iload 4, 2) := by decide +kernel
theorem dX7_tires_47 : decode cX7_tires 47 = .ok (.iadd, 1) := by decide +kernel
theorem dX7_tires_48 : decode cX7_tires 48 = .ok (.iaload, 1) := by decide +kernel
theorem dX7_tires_49 : decode cX7_tires 49 = .ok (.iload 5, 2) := by decide +kernel
theorem dX7_tires_51 : decode cX7_tires 51 = .ok (.ifCond .eq 7, 3) := by decide +kernel
theorem dX7_tires_54 : decode cX7_tires 54 = .ok (.iload_n 3, 1) := by decide +kernel
theorem dX7_tires_55 : decode cX7_tires 55 = .ok (.goto 5, 3) := by decide +kernel
theorem dX7_tires_58 : decode cX7_tires 58 = .ok (.iload_n 3, 1) := by decide +kernel
theorem dX7_tires_59 : decode cX7_tires 59 = .ok (.ineg, 1) := by decide +kernel
theorem dX7_tires_60 : decode cX7_tires 60 = .ok (.iadd, 1) := by decide +kernel
theorem dX7_tires_61 : decode cX7_tires 61 = .ok (.istore 6, 2) := by decide +kernel
theorem dX7_tires_63 : decode cX7_tires 63 = .ok (.aload_n 0, 1) := by decide +kernel
theorem dX7_tires_64 : decode cX7_tires 64 = .ok (.getfield 48, 3) := by decide +kernel
theorem dX7_tires_67 : decode cX7_tires 67 = .ok (.iconst 4, 1) := by decide +kernel
theorem dX7_tires_68 : decode cX7_tires 68 = .ok (.iload_n 1, 1) := by decide +kernel
theorem dX7_tires_69 : decode cX7_tires 69 = .ok (.imul, 1) := by decide +kernel
theorem dX7_tires_70 : decode cX7_tires 70 = .ok (.iconst 4, 1) := by decide +kernel
theorem dX7_tires_71 : decode cX7_tires 71 = .ok (.iadd, 1) := by decide +kernel
theorem dX7_tires_72 : decode cX7_tires 72 = .ok (.iload 4, 2) := by decide +kernel
theorem dX7_tires_74 : decode cX7_tires 74 = .ok (.iadd, 1) := by decide +kernel
theorem dX7_tires_75 : decode cX7_tires 75 = .ok (.iload 6, 2) := by decide +kernel
theorem dX7_tires_77 : decode cX7_tires 77 = .ok (.ifCond .ge 7, 3) := by decide +kernel
theorem dX7_tires_80 : decode cX7_tires 80 = .ok (.iconst 0, 1) := by decide +kernel
theorem dX7_tires_81 : decode cX7_tires 81 = .ok (.goto 17, 3) := by decide +kernel
theorem dX7_tires_84 : decode cX7_tires 84 = .ok (.iload 6, 2) := by decide +kernel
theorem dX7_tires_86 : decode cX7_tires 86 = .ok (.bipush 99, 2) := by decide +kernel
theorem dX7_tires_88 : decode cX7_tires 88 = .ok (.if_icmp .le 8, 3) := by decide +kernel
theorem dX7_tires_91 : decode cX7_tires 91 = .ok (.bipush 99, 2) := by decide +kernel
theorem dX7_tires_93 : decode cX7_tires 93 = .ok (.goto 5, 3) := by decide +kernel
theorem dX7_tires_96 : decode cX7_tires 96 = .ok (.iload 6, 2) := by decide +kernel
theorem dX7_tires_98 : decode cX7_tires 98 = .ok (.iastore, 1) := by decide +kernel
theorem dX7_tires_99 : decode cX7_tires 99 = .ok (.iinc 4 1, 3) := by decide +kernel
theorem dX7_tires_102 : decode cX7_tires 102 = .ok (.goto (-99), 3) := by decide +kernel
theorem dX7_tires_105 : decode cX7_tires 105 = .ok (.return_, 1) := by decide +kernel
theorem dX7_walksOn_0 : decode cX7_walksOn 0 = .ok (.aload_n 0, 1) := by decide +kernel
theorem dX7_walksOn_1 : decode cX7_walksOn 1 = .ok (.getfield 54, 3) := by decide +kernel
theorem dX7_walksOn_4 : decode cX7_walksOn 4 = .ok (.iload_n 1, 1) := by decide +kernel
theorem dX7_walksOn_5 : decode cX7_walksOn 5 = .ok (.iaload, 1) := by decide +kernel
theorem dX7_walksOn_6 : decode cX7_walksOn 6 = .ok (.bipush (-9), 2) := by decide +kernel
theorem dX7_walksOn_8 : decode cX7_walksOn 8 = .ok (.if_icmp .eq 17, 3) := by decide +kernel
theorem dX7_walksOn_11 : decode cX7_walksOn 11 = .ok (.aload_n 0, 1) := by decide +kernel
theorem dX7_walksOn_12 : decode cX7_walksOn 12 = .ok (.getfield 54, 3) := by decide +kernel
theorem dX7_walksOn_15 : decode cX7_walksOn 15 = .ok (.iload_n 1, 1) := by decide +kernel
theorem dX7_walksOn_16 : decode cX7_walksOn 16 = .ok (.iaload, 1) := by decide +kernel
theorem dX7_walksOn_17 : decode cX7_walksOn 17 = .ok (.iload_n 3, 1) := by decide +kernel
theorem dX7_walksOn_18 : decode cX7_walksOn 18 = .ok (.if_icmp .eq 7, 3) := by decide +kernel
theorem dX7_walksOn_21 : decode cX7_walksOn 21 = .ok (.iconst 1, 1) := by decide +kernel
theorem dX7_walksOn_22 : decode cX7_walksOn 22 = .ok (.goto 4, 3) := by decide +kernel
theorem dX7_walksOn_25 : decode cX7_walksOn 25 = .ok (.iconst 0, 1) := by decide +kernel
theorem dX7_walksOn_26 : decode cX7_walksOn 26 = .ok (.istore 4, 2) := by decide +kernel
theorem dX7_walksOn_28 : decode cX7_walksOn 28 = .ok (.aload_n 0, 1) := by decide +kernel
theorem dX7_walksOn_29 : decode cX7_walksOn 29 = .ok (.getfield 51, 3) := by decide +kernel
theorem dX7_walksOn_32 : decode cX7_walksOn 32 = .ok (.iload_n 1, 1) := by decide +kernel
theorem dX7_walksOn_33 : decode cX7_walksOn 33 = .ok (.iconst 1, 1) := by decide +kernel
theorem dX7_walksOn_34 : decode cX7_walksOn 34 = .ok (.iadd, 1) := by decide +kernel
theorem dX7_walksOn_35 : decode cX7_walksOn 35 = .ok (.aload_n 0, 1) := by decide +kernel
theorem dX7_walksOn_36 : decode cX7_walksOn 36 = .ok (.getfield 51, 3) := by decide +kernel
theorem dX7_walksOn_39 : decode cX7_walksOn 39 = .ok (.iload_n 1, 1) := by decide +kernel
theorem dX7_walksOn_40 : decode cX7_walksOn 40 = .ok (.iaload, 1) := by decide +kernel
theorem dX7_walksOn_41 : decode cX7_walksOn 41 = .ok (.iload 4, 2) := by decide +kernel
theorem dX7_walksOn_43 : decode cX7_walksOn 43 = .ok (.ifCond .eq 10, 3) := by decide +kernel
theorem dX7_walksOn_46 : decode cX7_walksOn 46 = .ok (.aload_n 0, 1) := by decide +kernel
theorem dX7_walksOn_47 : decode cX7_walksOn 47 = .ok (.getfield 16, 3) := by decide +kernel
theorem dX7_walksOn_50 : decode cX7_walksOn 50 = .ok (.goto 4, 3) := by decide +kernel
theorem dX7_walksOn_53 : decode cX7_walksOn 53 = .ok (.iconst 0, 1) := by decide +kernel
theorem dX7_walksOn_54 : decode cX7_walksOn 54 = .ok (.iadd, 1) := by decide +kernel
theorem dX7_walksOn_55 : decode cX7_walksOn 55 = .ok (.aload_n 0, 1) := by decide +kernel
theorem dX7_walksOn_56 : decode cX7_walksOn 56 = .ok (.iload_n 2, 1) := by decide +kernel
theorem dX7_walksOn_57 : decode cX7_walksOn 57 = .ok (.iload_n 3, 1) := by decide +kernel
theorem dX7_walksOn_58 : decode cX7_walksOn 58 = .ok (.iload_n 1, 1) := by decide +kernel
theorem dX7_walksOn_59 : decode cX7_walksOn 59 = .ok (.invokevirtual 147, 3) := by decide +kernel
theorem dX7_walksOn_62 : decode cX7_walksOn 62 = .ok (.iadd, 1) := by decide +kernel
theorem dX7_walksOn_63 : decode cX7_walksOn 63 = .ok (.iastore, 1) := by decide +kernel
theorem dX7_walksOn_64 : decode cX7_walksOn 64 = .ok (.aload_n 0, 1) := by decide +kernel
theorem dX7_walksOn_65 : decode cX7_walksOn 65 = .ok (.iload_n 1, 1) := by decide +kernel
theorem dX7_walksOn_66 : decode cX7_walksOn 66 = .ok (.iload_n 3, 1) := by decide +kernel
theorem dX7_walksOn_67 : decode cX7_walksOn 67 = .ok (.aload_n 0, 1) := by decide +kernel
theorem dX7_walksOn_68 : decode cX7_walksOn 68 = .ok (.getfield 13, 3) := by decide +kernel
theorem dX7_walksOn_71 : decode cX7_walksOn 71 = .ok (.iconst 4, 1) := by decide +kernel
theorem dX7_walksOn_72 : decode cX7_walksOn 72 = .ok (.iload_n 2, 1) := by decide +kernel
theorem dX7_walksOn_73 : decode cX7_walksOn 73 = .ok (.imul, 1) := by decide +kernel
theorem dX7_walksOn_74 : decode cX7_walksOn 74 = .ok (.iaload, 1) := by decide +kernel
theorem dX7_walksOn_75 : decode cX7_walksOn 75 = .ok (.invokevirtual 151, 3) := by decide +kernel
theorem dX7_walksOn_78 : decode cX7_walksOn 78 = .ok (.aload_n 0, 1) := by decide +kernel
theorem dX7_walksOn_79 : decode cX7_walksOn 79 = .ok (.getfield 54, 3) := by decide +kernel
theorem dX7_walksOn_82 : decode cX7_walksOn 82 = .ok (.iload_n 1, 1) := by decide +kernel
theorem dX7_walksOn_83 : decode cX7_walksOn 83 = .ok (.iconst 1, 1) := by decide +kernel
theorem dX7_walksOn_84 : decode cX7_walksOn 84 = .ok (.iadd, 1) := by decide +kernel
theorem dX7_walksOn_85 : decode cX7_walksOn 85 = .ok (.iload_n 3, 1) := by decide +kernel
theorem dX7_walksOn_86 : decode cX7_walksOn 86 = .ok (.iastore, 1) := by decide +kernel
theorem dX7_walksOn_87 : decode cX7_walksOn 87 = .ok (.return_, 1) := by decide +kernel
theorem dX7_walksAll_0 : decode cX7_walksAll 0 = .ok (.aload_n 0, 1) := by decide +kernel
theorem dX7_walksAll_1 : decode cX7_walksAll 1 = .ok (.invokevirtual 155, 3) := by decide +kernel
theorem dX7_walksAll_4 : decode cX7_walksAll 4 = .ok (.aload_n 0, 1) := by decide +kernel
theorem dX7_walksAll_5 : decode cX7_walksAll 5 = .ok (.getfield 20, 3) := by decide +kernel
theorem dX7_walksAll_8 : decode cX7_walksAll 8 = .ok (.iconst 0, 1) := by decide +kernel
theorem dX7_walksAll_9 : decode cX7_walksAll 9 = .ok (.iaload, 1) := by decide +kernel
theorem dX7_walksAll_10 : decode cX7_walksAll 10 = .ok (.istore_n 2, 1) := by decide +kernel
theorem dX7_walksAll_11 : decode cX7_walksAll 11 = .ok (.iload_n 2, 1) := by decide +kernel
theorem dX7_walksAll_12 : decode cX7_walksAll 12 = .ok (.aload_n 0, 1) := by decide +kernel
theorem dX7_walksAll_13 : decode cX7_walksAll 13 = .ok (.getfield 76, 3) := by decide +kernel
theorem dX7_walksAll_16 : decode cX7_walksAll 16 = .ok (.if_icmp .ge 23, 3) := by decide +kernel
theorem dX7_walksAll_19 : decode cX7_walksAll 19 = .ok (.aload_n 0, 1) := by decide +kernel
theorem dX7_walksAll_20 : decode cX7_walksAll 20 = .ok (.iload_n 2, 1) := by decide +kernel
theorem dX7_walksAll_21 : decode cX7_walksAll 21 = .ok (.aload_n 0, 1) := by decide +kernel
theorem dX7_walksAll_22 : decode cX7_walksAll 22 = .ok (.getfield 20, 3) := by decide +kernel
theorem dX7_walksAll_25 : decode cX7_walksAll 25 = .ok (.iconst 0, 1) := by decide +kernel
theorem dX7_walksAll_26 : decode cX7_walksAll 26 = .ok (.iaload, 1) := by decide +kernel
theorem dX7_walksAll_27 : decode cX7_walksAll 27 = .ok (.isub, 1) := by decide +kernel
theorem dX7_walksAll_28 : decode cX7_walksAll 28 = .ok (.iload_n 2, 1) := by decide +kernel
theorem dX7_walksAll_29 : decode cX7_walksAll 29 = .ok (.iload_n 1, 1) := by decide +kernel
theorem dX7_walksAll_30 : decode cX7_walksAll 30 = .ok (.invokevirtual 158, 3) := by decide +kernel
theorem dX7_walksAll_33 : decode cX7_walksAll 33 = .ok (.iinc 2 1, 3) := by decide +kernel
theorem dX7_walksAll_36 : decode cX7_walksAll 36 = .ok (.goto (-25), 3) := by decide +kernel
theorem dX7_walksAll_39 : decode cX7_walksAll 39 = .ok (.aload_n 0, 1) := by decide +kernel
theorem dX7_walksAll_40 : decode cX7_walksAll 40 = .ok (.getfield 51, 3) := by decide +kernel
theorem dX7_walksAll_43 : decode cX7_walksAll 43 = .ok (.aload_n 0, 1) := by decide +kernel
theorem dX7_walksAll_44 : decode cX7_walksAll 44 = .ok (.getfield 76, 3) := by decide +kernel
theorem dX7_walksAll_47 : decode cX7_walksAll 47 = .ok (.aload_n 0, 1) := by decide +kernel
theorem dX7_walksAll_48 : decode cX7_walksAll 48 = .ok (.getfield 20, 3) := by decide +kernel
theorem dX7_walksAll_51 : decode cX7_walksAll 51 = .ok (.iconst 0, 1) := by decide +kernel
theorem dX7_walksAll_52 : decode cX7_walksAll 52 = .ok (.iaload, 1) := by decide +kernel
theorem dX7_walksAll_53 : decode cX7_walksAll 53 = .ok (.isub, 1) := by decide +kernel
theorem dX7_walksAll_54 : decode cX7_walksAll 54 = .ok (.iaload, 1) := by decide +kernel
theorem dX7_walksAll_55 : decode cX7_walksAll 55 = .ok (.ireturn, 1) := by decide +kernel
theorem dX7_walker_0 : decode cX7_walker 0 = .ok (.aload_n 0, 1) := by decide +kernel
theorem dX7_walker_1 : decode cX7_walker 1 = .ok (.iload_n 1, 1) := by decide +kernel
theorem dX7_walker_2 : decode cX7_walker 2 = .ok (.invokevirtual 79, 3) := by decide +kernel
theorem dX7_walker_5 : decode cX7_walker 5 = .ok (.ifCond .ne 5, 3) := by decide +kernel
theorem dX7_walker_8 : decode cX7_walker 8 = .ok (.iconst (-1), 1) := by decide +kernel
theorem dX7_walker_9 : decode cX7_walker 9 = .ok (.ireturn, 1) := by decide +kernel
theorem dX7_walker_10 : decode cX7_walker 10 = .ok (.iload_n 2, 1) := by decide +kernel
theorem dX7_walker_11 : decode cX7_walker 11 = .ok (.tableswitch 76 0 3 #[29, 29, 40, 49], 29) := by decide +kernel
theorem dX7_walker_40 : decode cX7_walker 40 = .ok (.aload_n 0, 1) := by decide +kernel
theorem dX7_walker_41 : decode cX7_walker 41 = .ok (.getfield 7, 3) := by decide +kernel
theorem dX7_walker_44 : decode cX7_walker 44 = .ok (.iconst 2, 1) := by decide +kernel
theorem dX7_walker_45 : decode cX7_walker 45 = .ok (.iload_n 1, 1) := by decide +kernel
theorem dX7_walker_46 : decode cX7_walker 46 = .ok (.imul, 1) := by decide +kernel
theorem dX7_walker_47 : decode cX7_walker 47 = .ok (.iload_n 2, 1) := by decide +kernel
theorem dX7_walker_48 : decode cX7_walker 48 = .ok (.iadd, 1) := by decide +kernel
theorem dX7_walker_49 : decode cX7_walker 49 = .ok (.iaload, 1) := by decide +kernel
theorem dX7_walker_50 : decode cX7_walker 50 = .ok (.ireturn, 1) := by decide +kernel
theorem dX7_walker_51 : decode cX7_walker 51 = .ok (.aload_n 0, 1) := by decide +kernel
theorem dX7_walker_52 : decode cX7_walker 52 = .ok (.getfield 20, 3) := by decide +kernel
theorem dX7_walker_55 : decode cX7_walker 55 = .ok (.iconst 3, 1) := by decide +kernel
theorem dX7_walker_56 : decode cX7_walker 56 = .ok (.iload_n 1, 1) := by decide +kernel
theorem dX7_walker_57 : decode cX7_walker 57 = .ok (.iadd, 1) := by decide +kernel
theorem dX7_walker_58 : decode cX7_walker 58 = .ok (.iaload, 1) := by decide +kernel
theorem dX7_walker_59 : decode cX7_walker 59 = .ok (.ireturn, 1) := by decide +kernel
theorem dX7_walker_60 : decode cX7_walker 60 = .ok (.aload_n 0, 1) := by decide +kernel
theorem dX7_walker_61 : decode cX7_walker 61 = .ok (.getfield 20, 3) := by decide +kernel
theorem dX7_walker_64 : decode cX7_walker 64 = .ok (.iconst 3, 1) := by decide +kernel
theorem dX7_walker_65 : decode cX7_walker 65 = .ok (.iload_n 1, 1) := by decide +kernel
theorem dX7_walker_66 : decode cX7_walker 66 = .ok (.iadd, 1) := by decide +kernel
theorem dX7_walker_67 : decode cX7_walker 67 = .ok (.iaload, 1) := by decide +kernel
theorem dX7_walker_68 : decode cX7_walker 68 = .ok (.aload_n 0, 1) := by decide +kernel
theorem dX7_walker_69 : decode cX7_walker 69 = .ok (.getfield 7, 3) := by decide +kernel
theorem dX7_walker_72 : decode cX7_walker 72 = .ok (.iconst 2, 1) := by decide +kernel
theorem dX7_walker_73 : decode cX7_walker 73 = .ok (.iload_n 1, 1) := by decide +kernel
theorem dX7_walker_74 : decode cX7_walker 74 = .ok (.imul, 1) := by decide +kernel
theorem dX7_walker_75 : decode cX7_walker 75 = .ok (.iconst 1, 1) := by decide +kernel
theorem dX7_walker_76 : decode cX7_walker 76 = .ok (.iadd, 1) := by decide +kernel
theorem dX7_walker_77 : decode cX7_walker 77 = .ok (.iaload, 1) := by decide +kernel
theorem dX7_walker_78 : decode cX7_walker 78 = .ok (.if_icmp .le 7, 3) := by decide +kernel
theorem dX7_walker_81 : decode cX7_walker 81 = .ok (.iconst 1, 1) := by decide +kernel
theorem dX7_walker_82 : decode cX7_walker 82 = .ok (.goto 4, 3) := by decide +kernel
theorem dX7_walker_85 : decode cX7_walker 85 = .ok (.iconst 0, 1) := by decide +kernel
theorem dX7_walker_86 : decode cX7_walker 86 = .ok (.ireturn, 1) := by decide +kernel
theorem dX7_walker_87 : decode cX7_walker 87 = .ok (.iconst (-1), 1) := by decide +kernel
theorem dX7_walker_88 : decode cX7_walker 88 = .ok (.ireturn, 1) := by decide +kernel
theorem dX7_stretch_0 : decode cX7_stretch 0 = .ok (.aload_n 0, 1) := by decide +kernel
theorem dX7_stretch_1 : decode cX7_stretch 1 = .ok (.iload_n 1, 1) := by decide +kernel
theorem dX7_stretch_2 : decode cX7_stretch 2 = .ok (.invokevirtual 161, 3) := by decide +kernel
theorem dX7_stretch_5 : decode cX7_stretch 5 = .ok (.ifCond .eq 25, 3) := by decide +kernel
theorem dX7_stretch_8 : decode cX7_stretch 8 = .ok (.iload_n 2, 1) := by decide +kernel
theorem dX7_stretch_9 : decode cX7_stretch 9 = .ok (.iconst 0, 1) := by decide +kernel
theorem dX7_stretch_10 : decode cX7_stretch 10 = .ok (.iconst 3, 1) := by decide +kernel
theorem dX7_stretch_11 : decode cX7_stretch 11 = .ok (.invokestatic 72, 3) := by decide +kernel
theorem dX7_stretch_14 : decode cX7_stretch 14 = .ok (.ifCond .eq 16, 3) := by decide +kernel
theorem dX7_stretch_17 : decode cX7_stretch 17 = .ok (.aload_n 0, 1) := by decide +kernel
theorem dX7_stretch_18 : decode cX7_stretch 18 = .ok (.getfield 13, 3) := by decide +kernel
theorem dX7_stretch_21 : decode cX7_stretch 21 = .ok (.iconst 4, 1) := by decide +kernel
theorem dX7_stretch_22 : decode cX7_stretch 22 = .ok (.iload_n 1, 1) := by decide +kernel
theorem dX7_stretch_23 : decode cX7_stretch 23 = .ok (.imul, 1) := by decide +kernel
theorem dX7_stretch_24 : decode cX7_stretch 24 = .ok (.iload_n 2, 1) := by decide +kernel
theorem dX7_stretch_25 : decode cX7_stretch 25 = .ok (.iadd, 1) := by decide +kernel
theorem dX7_stretch_26 : decode cX7_stretch 26 = .ok (.iaload, 1) := by decide +kernel
theorem dX7_stretch_27 : decode cX7_stretch 27 = .ok (.goto 4, 3) := by decide +kernel
theorem dX7_stretch_30 : decode cX7_stretch 30 = .ok (.iconst (-1), 1) := by decide +kernel
theorem dX7_stretch_31 : decode cX7_stretch 31 = .ok (.ireturn, 1) := by decide +kernel
theorem dX7_takes_0 : decode cX7_takes 0 = .ok (.aload_n 0, 1) := by decide +kernel
theorem dX7_takes_1 : decode cX7_takes 1 = .ok (.iload_n 1, 1) := by decide +kernel
theorem dX7_takes_2 : decode cX7_takes 2 = .ok (.invokevirtual 161, 3) := by decide +kernel
theorem dX7_takes_5 : decode cX7_takes 5 = .ok (.ifCond .eq 11, 3) := by decide +kernel
theorem dX7_takes_8 : decode cX7_takes 8 = .ok (.aload_n 0, 1) := by decide +kernel
theorem dX7_takes_9 : decode cX7_takes 9 = .ok (.iload_n 2, 1) := by decide +kernel
theorem dX7_takes_10 : decode cX7_takes 10 = .ok (.invokevirtual 164, 3) := by decide +kernel
theorem dX7_takes_13 : decode cX7_takes 13 = .ok (.ifCond .ne 5, 3) := by decide +kernel
theorem dX7_takes_16 : decode cX7_takes 16 = .ok (.iconst (-1), 1) := by decide +kernel
theorem dX7_takes_17 : decode cX7_takes 17 = .ok (.ireturn, 1) := by decide +kernel
theorem dX7_takes_18 : decode cX7_takes 18 = .ok (.aload_n 0, 1) := by decide +kernel
theorem dX7_takes_19 : decode cX7_takes 19 = .ok (.invokevirtual 155, 3) := by decide +kernel
theorem dX7_takes_22 : decode cX7_takes 22 = .ok (.aload_n 0, 1) := by decide +kernel
theorem dX7_takes_23 : decode cX7_takes 23 = .ok (.iload_n 1, 1) := by decide +kernel
theorem dX7_takes_24 : decode cX7_takes 24 = .ok (.iload_n 2, 1) := by decide +kernel
theorem dX7_takes_25 : decode cX7_takes 25 = .ok (.iconst 0, 1) := by decide +kernel
theorem dX7_takes_26 : decode cX7_takes 26 = .ok (.invokevirtual 147, 3) := by decide +kernel
theorem dX7_takes_29 : decode cX7_takes 29 = .ok (.ireturn, 1) := by decide +kernel
theorem dX7_remembers_0 : decode cX7_remembers 0 = .ok (.aload_n 0, 1) := by decide +kernel
theorem dX7_remembers_1 : decode cX7_remembers 1 = .ok (.getfield 137, 3) := by decide +kernel
theorem dX7_remembers_4 : decode cX7_remembers 4 = .ok (.bipush 10, 2) := by decide +kernel
theorem dX7_remembers_6 : decode cX7_remembers 6 = .ok (.if_icmp .ne 42, 3) := by decide +kernel
theorem dX7_remembers_9 : decode cX7_remembers 9 = .ok (.iconst 0, 1) := by decide +kernel
theorem dX7_remembers_10 : decode cX7_remembers 10 = .ok (.istore_n 1, 1) := by decide +kernel
theorem dX7_remembers_11 : decode cX7_remembers 11 = .ok (.iload_n 1, 1) := by decide +kernel
theorem dX7_remembers_12 : decode cX7_remembers 12 = .ok (.bipush 63, 2) := by decide +kernel
theorem dX7_remembers_14 : decode cX7_remembers 14 = .ok (.if_icmp .ge 24, 3) := by decide +kernel
theorem dX7_remembers_17 : decode cX7_remembers 17 = .ok (.aload_n 0, 1) := by decide +kernel
theorem dX7_remembers_18 : decode cX7_remembers 18 = .ok (.getfield 23, 3) := by decide +kernel
theorem dX7_remembers_21 : decode cX7_remembers 21 = .ok (.iload_n 1, 1) := by decide +kernel
theorem dX7_remembers_22 : decode cX7_remembers 22 = .ok (.aload_n 0, 1) := by decide +kernel
theorem dX7_remembers_23 : decode cX7_remembers 23 = .ok (.getfield 23, 3) := by decide +kernel
theorem dX7_remembers_26 : decode cX7_remembers 26 = .ok (.iload_n 1, 1) := by decide +kernel
theorem dX7_remembers_27 : decode cX7_remembers 27 = .ok (.bipush 7, 2) := by decide +kernel
theorem dX7_remembers_29 : decode cX7_remembers 29 = .ok (.iadd, 1) := by decide +kernel
theorem dX7_remembers_30 : decode cX7_remembers 30 = .ok (.iaload, 1) := by decide +kernel
theorem dX7_remembers_31 : decode cX7_remembers 31 = .ok (.iastore, 1) := by decide +kernel
theorem dX7_remembers_32 : decode cX7_remembers 32 = .ok (.iinc 1 1, 3) := by decide +kernel
theorem dX7_remembers_35 : decode cX7_remembers 35 = .ok (.goto (-24), 3) := by decide +kernel
theorem dX7_remembers_38 : decode cX7_remembers 38 = .ok (.aload_n 0, 1) := by decide +kernel
theorem dX7_remembers_39 : decode cX7_remembers 39 = .ok (.dup, 1) := by decide +kernel
theorem dX7_remembers_40 : decode cX7_remembers 40 = .ok (.getfield 137, 3) := by decide +kernel
theorem dX7_remembers_43 : decode cX7_remembers 43 = .ok (.iconst 1, 1) := by decide +kernel
theorem dX7_remembers_44 : decode cX7_remembers 44 = .ok (.isub, 1) := by decide +kernel
theorem dX7_remembers_45 : decode cX7_remembers 45 = .ok (.putfield 137, 3) := by decide +kernel
theorem dX7_remembers_48 : decode cX7_remembers 48 = .ok (.iconst 0, 1) := by decide +kernel
theorem dX7_remembers_49 : decode cX7_remembers 49 = .ok (.istore_n 1, 1) := by decide +kernel
theorem dX7_remembers_50 : decode cX7_remembers 50 = .ok (.iload_n 1, 1) := by decide +kernel
theorem dX7_remembers_51 : decode cX7_remembers 51 = .ok (.bipush 7, 2) := by decide +kernel
theorem dX7_remembers_53 : decode cX7_remembers 53 = .ok (.if_icmp .ge 29, 3) := by decide +kernel
theorem dX7_remembers_56 : decode cX7_remembers 56 = .ok (.aload_n 0, 1) := by decide +kernel
theorem dX7_remembers_57 : decode cX7_remembers 57 = .ok (.getfield 23, 3) := by decide +kernel
theorem dX7_remembers_60 : decode cX7_remembers 60 = .ok (.bipush 7, 2) := by decide +kernel
theorem dX7_remembers_62 : decode cX7_remembers 62 = .ok (.aload_n 0, 1) := by decide +kernel
theorem dX7_remembers_63 : decode cX7_remembers 63 = .ok (.getfield 137, 3) := by decide +kernel
theorem dX7_remembers_66 : decode cX7_remembers 66 = .ok (.imul, 1) := by decide +kernel
theorem dX7_remembers_67 : decode cX7_remembers 67 = .ok (.iload_n 1, 1) := by decide +kernel
theorem dX7_remembers_68 : decode cX7_remembers 68 = .ok (.iadd, 1) := by decide +kernel
theorem dX7_remembers_69 : decode cX7_remembers 69 = .ok (.aload_n 0, 1) := by decide +kernel
theorem dX7_remembers_70 : decode cX7_remembers 70 = .ok (.getfield 20, 3) := by decide +kernel
theorem dX7_remembers_73 : decode cX7_remembers 73 = .ok (.iload_n 1, 1) := by decide +kernel
theorem dX7_remembers_74 : decode cX7_remembers 74 = .ok (.iaload, 1) := by decide +kernel
theorem dX7_remembers_75 : decode cX7_remembers 75 = .ok (.iastore, 1) := by decide +kernel
theorem dX7_remembers_76 : decode cX7_remembers 76 = .ok (.iinc 1 1, 3) := by decide +kernel
theorem dX7_remembers_79 : decode cX7_remembers 79 = .ok (.goto (-29), 3) := by decide +kernel
theorem dX7_remembers_82 : decode cX7_remembers 82 = .ok (.aload_n 0, 1) := by decide +kernel
theorem dX7_remembers_83 : decode cX7_remembers 83 = .ok (.dup, 1) := by decide +kernel
theorem dX7_remembers_84 : decode cX7_remembers 84 = .ok (.getfield 137, 3) := by decide +kernel
theorem dX7_remembers_87 : decode cX7_remembers 87 = .ok (.iconst 1, 1) := by decide +kernel
theorem dX7_remembers_88 : decode cX7_remembers 88 = .ok (.iadd, 1) := by decide +kernel
theorem dX7_remembers_89 : decode cX7_remembers 89 = .ok (.putfield 137, 3) := by decide +kernel
theorem dX7_remembers_92 : decode cX7_remembers 92 = .ok (.return_, 1) := by decide +kernel
theorem dX7_becomes_0 : decode cX7_becomes 0 = .ok (.aload_n 0, 1) := by decide +kernel
theorem dX7_becomes_1 : decode cX7_becomes 1 = .ok (.invokevirtual 167, 3) := by decide +kernel
theorem dX7_becomes_4 : decode cX7_becomes 4 = .ok (.aload_n 0, 1) := by decide +kernel
theorem dX7_becomes_5 : decode cX7_becomes 5 = .ok (.getfield 20, 3) := by decide +kernel
theorem dX7_becomes_8 : decode cX7_becomes 8 = .ok (.iconst 0, 1) := by decide +kernel
theorem dX7_becomes_9 : decode cX7_becomes 9 = .ok (.iload_n 1, 1) := by decide +kernel
theorem dX7_becomes_10 : decode cX7_becomes 10 = .ok (.iastore, 1) := by decide +kernel
theorem dX7_becomes_11 : decode cX7_becomes 11 = .ok (.aload_n 0, 1) := by decide +kernel
theorem dX7_becomes_12 : decode cX7_becomes 12 = .ok (.getfield 20, 3) := by decide +kernel
theorem dX7_becomes_15 : decode cX7_becomes 15 = .ok (.iconst 1, 1) := by decide +kernel
theorem dX7_becomes_16 : decode cX7_becomes 16 = .ok (.dup2, 1) := by decide +kernel
theorem dX7_becomes_17 : decode cX7_becomes 17 = .ok (.iaload, 1) := by decide +kernel
theorem dX7_becomes_18 : decode cX7_becomes 18 = .ok (.iload_n 3, 1) := by decide +kernel
theorem dX7_becomes_19 : decode cX7_becomes 19 = .ok (.iadd, 1) := by decide +kernel
theorem dX7_becomes_20 : decode cX7_becomes 20 = .ok (.iastore, 1) := by decide +kernel
theorem dX7_becomes_21 : decode cX7_becomes 21 = .ok (.aload_n 0, 1) := by decide +kernel
theorem dX7_becomes_22 : decode cX7_becomes 22 = .ok (.getfield 20, 3) := by decide +kernel
theorem dX7_becomes_25 : decode cX7_becomes 25 = .ok (.iconst 2, 1) := by decide +kernel
theorem dX7_becomes_26 : decode cX7_becomes 26 = .ok (.iload_n 2, 1) := by decide +kernel
theorem dX7_becomes_27 : decode cX7_becomes 27 = .ok (.iastore, 1) := by decide +kernel
theorem dX7_becomes_28 : decode cX7_becomes 28 = .ok (.iconst 0, 1) := by decide +kernel
theorem dX7_becomes_29 : decode cX7_becomes 29 = .ok (.istore 4, 2) := by decide +kernel
theorem dX7_becomes_31 : decode cX7_becomes 31 = .ok (.iload 4, 2) := by decide +kernel
theorem dX7_becomes_33 : decode cX7_becomes 33 = .ok (.iconst 4, 1) := by decide +kernel
theorem dX7_becomes_34 : decode cX7_becomes 34 = .ok (.if_icmp .ge 27, 3) := by decide +kernel
theorem dX7_becomes_37 : decode cX7_becomes 37 = .ok (.aload_n 0, 1) := by decide +kernel
theorem dX7_becomes_38 : decode cX7_becomes 38 = .ok (.getfield 20, 3) := by decide +kernel
theorem dX7_becomes_41 : decode cX7_becomes 41 = .ok (.iconst 3, 1) := by decide +kernel
theorem dX7_becomes_42 : decode cX7_becomes 42 = .ok (.iload 4, 2) := by decide +kernel
theorem dX7_becomes_44 : decode cX7_becomes 44 = .ok (.iadd, 1) := by decide +kernel
theorem dX7_becomes_45 : decode cX7_becomes 45 = .ok (.aload_n 0, 1) := by decide +kernel
theorem dX7_becomes_46 : decode cX7_becomes 46 = .ok (.getfield 48, 3) := by decide +kernel
theorem dX7_becomes_49 : decode cX7_becomes 49 = .ok (.iconst 4, 1) := by decide +kernel
theorem dX7_becomes_50 : decode cX7_becomes 50 = .ok (.iload 4, 2) := by decide +kernel
theorem dX7_becomes_52 : decode cX7_becomes 52 = .ok (.iadd, 1) := by decide +kernel
theorem dX7_becomes_53 : decode cX7_becomes 53 = .ok (.iaload, 1) := by decide +kernel
theorem dX7_becomes_54 : decode cX7_becomes 54 = .ok (.iastore, 1) := by decide +kernel
theorem dX7_becomes_55 : decode cX7_becomes 55 = .ok (.iinc 4 1, 3) := by decide +kernel
theorem dX7_becomes_58 : decode cX7_becomes 58 = .ok (.goto (-27), 3) := by decide +kernel
theorem dX7_becomes_61 : decode cX7_becomes 61 = .ok (.return_, 1) := by decide +kernel
theorem dX7_walks_0 : decode cX7_walks 0 = .ok (.aload_n 0, 1) := by decide +kernel
theorem dX7_walks_1 : decode cX7_walks 1 = .ok (.iload_n 1, 1) := by decide +kernel
theorem dX7_walks_2 : decode cX7_walks 2 = .ok (.invokevirtual 164, 3) := by decide +kernel
theorem dX7_walks_5 : decode cX7_walks 5 = .ok (.ifCond .ne 5, 3) := by decide +kernel
theorem dX7_walks_8 : decode cX7_walks 8 = .ok (.iconst (-1), 1) := by decide +kernel
theorem dX7_walks_9 : decode cX7_walks 9 = .ok (.ireturn, 1) := by decide +kernel
theorem dX7_walks_10 : decode cX7_walks 10 = .ok (.aload_n 0, 1) := by decide +kernel
theorem dX7_walks_11 : decode cX7_walks 11 = .ok (.getfield 20, 3) := by decide +kernel
theorem dX7_walks_14 : decode cX7_walks 14 = .ok (.iconst 0, 1) := by decide +kernel
theorem dX7_walks_15 : decode cX7_walks 15 = .ok (.iaload, 1) := by decide +kernel
theorem dX7_walks_16 : decode cX7_walks 16 = .ok (.aload_n 0, 1) := by decide +kernel
theorem dX7_walks_17 : decode cX7_walks 17 = .ok (.getfield 76, 3) := by decide +kernel
theorem dX7_walks_20 : decode cX7_walks 20 = .ok (.if_icmp .ne 6, 3) := by decide +kernel
theorem dX7_walks_23 : decode cX7_walks 23 = .ok (.bipush (-2), 2) := by decide +kernel
theorem dX7_walks_25 : decode cX7_walks 25 = .ok (.ireturn, 1) := by decide +kernel
theorem dX7_walks_26 : decode cX7_walks 26 = .ok (.aload_n 0, 1) := by decide +kernel
theorem dX7_walks_27 : decode cX7_walks 27 = .ok (.invokevirtual 155, 3) := by decide +kernel
theorem dX7_walks_30 : decode cX7_walks 30 = .ok (.aload_n 0, 1) := by decide +kernel
theorem dX7_walks_31 : decode cX7_walks 31 = .ok (.iconst 0, 1) := by decide +kernel
theorem dX7_walks_32 : decode cX7_walks 32 = .ok (.aload_n 0, 1) := by decide +kernel
theorem dX7_walks_33 : decode cX7_walks 33 = .ok (.getfield 20, 3) := by decide +kernel
theorem dX7_walks_36 : decode cX7_walks 36 = .ok (.iconst 0, 1) := by decide +kernel
theorem dX7_walks_37 : decode cX7_walks 37 = .ok (.iaload, 1) := by decide +kernel
theorem dX7_walks_38 : decode cX7_walks 38 = .ok (.iload_n 1, 1) := by decide +kernel
theorem dX7_walks_39 : decode cX7_walks 39 = .ok (.invokevirtual 158, 3) := by decide +kernel
theorem dX7_walks_42 : decode cX7_walks 42 = .ok (.aload_n 0, 1) := by decide +kernel
theorem dX7_walks_43 : decode cX7_walks 43 = .ok (.getfield 20, 3) := by decide +kernel
theorem dX7_walks_46 : decode cX7_walks 46 = .ok (.iconst 1, 1) := by decide +kernel
theorem dX7_walks_47 : decode cX7_walks 47 = .ok (.iaload, 1) := by decide +kernel
theorem dX7_walks_48 : decode cX7_walks 48 = .ok (.aload_n 0, 1) := by decide +kernel
theorem dX7_walks_49 : decode cX7_walks 49 = .ok (.getfield 51, 3) := by decide +kernel
theorem dX7_walks_52 : decode cX7_walks 52 = .ok (.iconst 1, 1) := by decide +kernel
theorem dX7_walks_53 : decode cX7_walks 53 = .ok (.iaload, 1) := by decide +kernel
theorem dX7_walks_54 : decode cX7_walks 54 = .ok (.iadd, 1) := by decide +kernel
theorem dX7_walks_55 : decode cX7_walks 55 = .ok (.sipush 9999, 3) := by decide +kernel
theorem dX7_walks_58 : decode cX7_walks 58 = .ok (.if_icmp .le 6, 3) := by decide +kernel
theorem dX7_walks_61 : decode cX7_walks 61 = .ok (.bipush (-2), 2) := by decide +kernel
theorem dX7_walks_63 : decode cX7_walks 63 = .ok (.ireturn, 1) := by decide +kernel
theorem dX7_walks_64 : decode cX7_walks 64 = .ok (.aload_n 0, 1) := by decide +kernel
theorem dX7_walks_65 : decode cX7_walks 65 = .ok (.aload_n 0, 1) := by decide +kernel
theorem dX7_walks_66 : decode cX7_walks 66 = .ok (.getfield 20, 3) := by decide +kernel
theorem dX7_walks_69 : decode cX7_walks 69 = .ok (.iconst 0, 1) := by decide +kernel
theorem dX7_walks_70 : decode cX7_walks 70 = .ok (.iaload, 1) := by decide +kernel
theorem dX7_walks_71 : decode cX7_walks 71 = .ok (.iconst 1, 1) := by decide +kernel
theorem dX7_walks_72 : decode cX7_walks 72 = .ok (.iadd, 1) := by decide +kernel
theorem dX7_walks_73 : decode cX7_walks 73 = .ok (.iload_n 1, 1) := by decide +kernel
theorem dX7_walks_74 : decode cX7_walks 74 = .ok (.aload_n 0, 1) := by decide +kernel
theorem dX7_walks_75 : decode cX7_walks 75 = .ok (.getfield 51, 3) := by decide +kernel
theorem dX7_walks_78 : decode cX7_walks 78 = .ok (.iconst 1, 1) := by decide +kernel
theorem dX7_walks_79 : decode cX7_walks 79 = .ok (.iaload, 1) := by decide +kernel
theorem dX7_walks_80 : decode cX7_walks 80 = .ok (.invokevirtual 170, 3) := by decide +kernel
theorem dX7_walks_83 : decode cX7_walks 83 = .ok (.aload_n 0, 1) := by decide +kernel
theorem dX7_walks_84 : decode cX7_walks 84 = .ok (.getfield 51, 3) := by decide +kernel
theorem dX7_walks_87 : decode cX7_walks 87 = .ok (.iconst 1, 1) := by decide +kernel
theorem dX7_walks_88 : decode cX7_walks 88 = .ok (.iaload, 1) := by decide +kernel
theorem dX7_walks_89 : decode cX7_walks 89 = .ok (.ireturn, 1) := by decide +kernel
theorem dX7_backs_0 : decode cX7_backs 0 = .ok (.aload_n 0, 1) := by decide +kernel
theorem dX7_backs_1 : decode cX7_backs 1 = .ok (.getfield 20, 3) := by decide +kernel
theorem dX7_backs_4 : decode cX7_backs 4 = .ok (.iconst 0, 1) := by decide +kernel
theorem dX7_backs_5 : decode cX7_backs 5 = .ok (.iaload, 1) := by decide +kernel
theorem dX7_backs_6 : decode cX7_backs 6 = .ok (.ifCond .ne 6, 3) := by decide +kernel
theorem dX7_backs_9 : decode cX7_backs 9 = .ok (.bipush (-2), 2) := by decide +kernel
theorem dX7_backs_11 : decode cX7_backs 11 = .ok (.ireturn, 1) := by decide +kernel
theorem dX7_backs_12 : decode cX7_backs 12 = .ok (.aload_n 0, 1) := by decide +kernel
theorem dX7_backs_13 : decode cX7_backs 13 = .ok (.getfield 20, 3) := by decide +kernel
theorem dX7_backs_16 : decode cX7_backs 16 = .ok (.iconst 0, 1) := by decide +kernel
theorem dX7_backs_17 : decode cX7_backs 17 = .ok (.iaload, 1) := by decide +kernel
theorem dX7_backs_18 : decode cX7_backs 18 = .ok (.iconst 1, 1) := by decide +kernel
theorem dX7_backs_19 : decode cX7_backs 19 = .ok (.isub, 1) := by decide +kernel
theorem dX7_backs_20 : decode cX7_backs 20 = .ok (.istore_n 1, 1) := by decide +kernel
theorem dX7_backs_21 : decode cX7_backs 21 = .ok (.aload_n 0, 1) := by decide +kernel
theorem dX7_backs_22 : decode cX7_backs 22 = .ok (.invokevirtual 155, 3) := by decide +kernel
theorem dX7_backs_25 : decode cX7_backs 25 = .ok (.iconst 2, 1) := by decide +kernel
theorem dX7_backs_26 : decode cX7_backs 26 = .ok (.aload_n 0, 1) := by decide +kernel
theorem dX7_backs_27 : decode cX7_backs 27 = .ok (.iload_n 1, 1) := by decide +kernel
theorem dX7_backs_28 : decode cX7_backs 28 = .ok (.aload_n 0, 1) := by decide +kernel
theorem dX7_backs_29 : decode cX7_backs 29 = .ok (.getfield 20, 3) := by decide +kernel
theorem dX7_backs_32 : decode cX7_backs 32 = .ok (.iconst 2, 1) := by decide +kernel
theorem dX7_backs_33 : decode cX7_backs 33 = .ok (.iaload, 1) := by decide +kernel
theorem dX7_backs_34 : decode cX7_backs 34 = .ok (.iconst 0, 1) := by decide +kernel
theorem dX7_backs_35 : decode cX7_backs 35 = .ok (.invokevirtual 147, 3) := by decide +kernel
theorem dX7_backs_38 : decode cX7_backs 38 = .ok (.imul, 1) := by decide +kernel
theorem dX7_backs_39 : decode cX7_backs 39 = .ok (.istore_n 2, 1) := by decide +kernel
theorem dX7_backs_40 : decode cX7_backs 40 = .ok (.aload_n 0, 1) := by decide +kernel
theorem dX7_backs_41 : decode cX7_backs 41 = .ok (.getfield 20, 3) := by decide +kernel
theorem dX7_backs_44 : decode cX7_backs 44 = .ok (.iconst 1, 1) := by decide +kernel
theorem dX7_backs_45 : decode cX7_backs 45 = .ok (.iaload, 1) := by decide +kernel
theorem dX7_backs_46 : decode cX7_backs 46 = .ok (.iload_n 2, 1) := by decide +kernel
theorem dX7_backs_47 : decode cX7_backs 47 = .ok (.iadd, 1) := by decide +kernel
theorem dX7_backs_48 : decode cX7_backs 48 = .ok (.sipush 9999, 3) := by decide +kernel
theorem dX7_backs_51 : decode cX7_backs 51 = .ok (.if_icmp .le 6, 3) := by decide +kernel
theorem dX7_backs_54 : decode cX7_backs 54 = .ok (.bipush (-2), 2) := by decide +kernel
theorem dX7_backs_56 : decode cX7_backs 56 = .ok (.ireturn, 1) := by decide +kernel
theorem dX7_backs_57 : decode cX7_backs 57 = .ok (.aload_n 0, 1) := by decide +kernel
theorem dX7_backs_58 : decode cX7_backs 58 = .ok (.iconst 0, 1) := by decide +kernel
theorem dX7_backs_59 : decode cX7_backs 59 = .ok (.aload_n 0, 1) := by decide +kernel
theorem dX7_backs_60 : decode cX7_backs 60 = .ok (.getfield 20, 3) := by decide +kernel
theorem dX7_backs_63 : decode cX7_backs 63 = .ok (.iconst 2, 1) := by decide +kernel
theorem dX7_backs_64 : decode cX7_backs 64 = .ok (.iaload, 1) := by decide +kernel
theorem dX7_backs_65 : decode cX7_backs 65 = .ok (.aload_n 0, 1) := by decide +kernel
theorem dX7_backs_66 : decode cX7_backs 66 = .ok (.getfield 13, 3) := by decide +kernel
theorem dX7_backs_69 : decode cX7_backs 69 = .ok (.iconst 4, 1) := by decide +kernel
theorem dX7_backs_70 : decode cX7_backs 70 = .ok (.iload_n 1, 1) := by decide +kernel
theorem dX7_backs_71 : decode cX7_backs 71 = .ok (.imul, 1) := by decide +kernel
theorem dX7_backs_72 : decode cX7_backs 72 = .ok (.iaload, 1) := by decide +kernel
theorem dX7_backs_73 : decode cX7_backs 73 = .ok (.invokevirtual 151, 3) := by decide +kernel
theorem dX7_backs_76 : decode cX7_backs 76 = .ok (.aload_n 0, 1) := by decide +kernel
theorem dX7_backs_77 : decode cX7_backs 77 = .ok (.iload_n 1, 1) := by decide +kernel
theorem dX7_backs_78 : decode cX7_backs 78 = .ok (.aload_n 0, 1) := by decide +kernel
theorem dX7_backs_79 : decode cX7_backs 79 = .ok (.getfield 20, 3) := by decide +kernel
theorem dX7_backs_82 : decode cX7_backs 82 = .ok (.iconst 2, 1) := by decide +kernel
theorem dX7_backs_83 : decode cX7_backs 83 = .ok (.iaload, 1) := by decide +kernel
theorem dX7_backs_84 : decode cX7_backs 84 = .ok (.iload_n 2, 1) := by decide +kernel
theorem dX7_backs_85 : decode cX7_backs 85 = .ok (.invokevirtual 170, 3) := by decide +kernel
theorem dX7_backs_88 : decode cX7_backs 88 = .ok (.iload_n 2, 1) := by decide +kernel
theorem dX7_backs_89 : decode cX7_backs 89 = .ok (.ireturn, 1) := by decide +kernel
theorem dX7_rests_0 : decode cX7_rests 0 = .ok (.iload_n 1, 1) := by decide +kernel
theorem dX7_rests_1 : decode cX7_rests 1 = .ok (.iconst 1, 1) := by decide +kernel
theorem dX7_rests_2 : decode cX7_rests 2 = .ok (.bipush 99, 2) := by decide +kernel
theorem dX7_rests_4 : decode cX7_rests 4 = .ok (.invokestatic 72, 3) := by decide +kernel
theorem dX7_rests_7 : decode cX7_rests 7 = .ok (.ifCond .ne 5, 3) := by decide +kernel
theorem dX7_rests_10 : decode cX7_rests 10 = .ok (.iconst (-1), 1) := by decide +kernel
theorem dX7_rests_11 : decode cX7_rests 11 = .ok (.ireturn, 1) := by decide +kernel
theorem dX7_rests_12 : decode cX7_rests 12 = .ok (.aload_n 0, 1) := by decide +kernel
theorem dX7_rests_13 : decode cX7_rests 13 = .ok (.getfield 20, 3) := by decide +kernel
theorem dX7_rests_16 : decode cX7_rests 16 = .ok (.iconst 1, 1) := by decide +kernel
theorem dX7_rests_17 : decode cX7_rests 17 = .ok (.iaload, 1) := by decide +kernel
theorem dX7_rests_18 : decode cX7_rests 18 = .ok (.iload_n 1, 1) := by decide +kernel
theorem dX7_rests_19 : decode cX7_rests 19 = .ok (.iadd, 1) := by decide +kernel
theorem dX7_rests_20 : decode cX7_rests 20 = .ok (.sipush 9999, 3) := by decide +kernel
theorem dX7_rests_23 : decode cX7_rests 23 = .ok (.if_icmp .le 6, 3) := by decide +kernel
theorem dX7_rests_26 : decode cX7_rests 26 = .ok (.bipush (-2), 2) := by decide +kernel
theorem dX7_rests_28 : decode cX7_rests 28 = .ok (.ireturn, 1) := by decide +kernel
theorem dX7_rests_29 : decode cX7_rests 29 = .ok (.aload_n 0, 1) := by decide +kernel
theorem dX7_rests_30 : decode cX7_rests 30 = .ok (.invokevirtual 155, 3) := by decide +kernel
theorem dX7_rests_33 : decode cX7_rests 33 = .ok (.aload_n 0, 1) := by decide +kernel
theorem dX7_rests_34 : decode cX7_rests 34 = .ok (.iconst 0, 1) := by decide +kernel
theorem dX7_rests_35 : decode cX7_rests 35 = .ok (.iconst (-1), 1) := by decide +kernel
theorem dX7_rests_36 : decode cX7_rests 36 = .ok (.iload_n 1, 1) := by decide +kernel
theorem dX7_rests_37 : decode cX7_rests 37 = .ok (.invokevirtual 151, 3) := by decide +kernel
theorem dX7_rests_40 : decode cX7_rests 40 = .ok (.aload_n 0, 1) := by decide +kernel
theorem dX7_rests_41 : decode cX7_rests 41 = .ok (.aload_n 0, 1) := by decide +kernel
theorem dX7_rests_42 : decode cX7_rests 42 = .ok (.getfield 20, 3) := by decide +kernel
theorem dX7_rests_45 : decode cX7_rests 45 = .ok (.iconst 0, 1) := by decide +kernel
theorem dX7_rests_46 : decode cX7_rests 46 = .ok (.iaload, 1) := by decide +kernel
theorem dX7_rests_47 : decode cX7_rests 47 = .ok (.aload_n 0, 1) := by decide +kernel
theorem dX7_rests_48 : decode cX7_rests 48 = .ok (.getfield 20, 3) := by decide +kernel
theorem dX7_rests_51 : decode cX7_rests 51 = .ok (.iconst 2, 1) := by decide +kernel
theorem dX7_rests_52 : decode cX7_rests 52 = .ok (.iaload, 1) := by decide +kernel
theorem dX7_rests_53 : decode cX7_rests 53 = .ok (.iload_n 1, 1) := by decide +kernel
theorem dX7_rests_54 : decode cX7_rests 54 = .ok (.invokevirtual 170, 3) := by decide +kernel
theorem dX7_rests_57 : decode cX7_rests 57 = .ok (.aload_n 0, 1) := by decide +kernel
theorem dX7_rests_58 : decode cX7_rests 58 = .ok (.getfield 20, 3) := by decide +kernel
theorem dX7_rests_61 : decode cX7_rests 61 = .ok (.iconst 1, 1) := by decide +kernel
theorem dX7_rests_62 : decode cX7_rests 62 = .ok (.iaload, 1) := by decide +kernel
theorem dX7_rests_63 : decode cX7_rests 63 = .ok (.ireturn, 1) := by decide +kernel
theorem dX7_undo_0 : decode cX7_undo 0 = .ok (.aload_n 0, 1) := by decide +kernel
theorem dX7_undo_1 : decode cX7_undo 1 = .ok (.getfield 137, 3) := by decide +kernel
theorem dX7_undo_4 : decode cX7_undo 4 = .ok (.ifCond .ne 6, 3) := by decide +kernel
theorem dX7_undo_7 : decode cX7_undo 7 = .ok (.bipush (-2), 2) := by decide +kernel
theorem dX7_undo_9 : decode cX7_undo 9 = .ok (.ireturn, 1) := by decide +kernel
theorem dX7_undo_10 : decode cX7_undo 10 = .ok (.aload_n 0, 1) := by decide +kernel
theorem dX7_undo_11 : decode cX7_undo 11 = .ok (.dup, 1) := by decide +kernel
theorem dX7_undo_12 : decode cX7_undo 12 = .ok (.getfield 137, 3) := by decide +kernel
theorem dX7_undo_15 : decode cX7_undo 15 = .ok (.iconst 1, 1) := by decide +kernel
theorem dX7_undo_16 : decode cX7_undo 16 = .ok (.isub, 1) := by decide +kernel
theorem dX7_undo_17 : decode cX7_undo 17 = .ok (.putfield 137, 3) := by decide +kernel
theorem dX7_undo_20 : decode cX7_undo 20 = .ok (.iconst 0, 1) := by decide +kernel
theorem dX7_undo_21 : decode cX7_undo 21 = .ok (.istore_n 1, 1) := by decide +kernel
theorem dX7_undo_22 : decode cX7_undo 22 = .ok (.iload_n 1, 1) := by decide +kernel
theorem dX7_undo_23 : decode cX7_undo 23 = .ok (.bipush 7, 2) := by decide +kernel
theorem dX7_undo_25 : decode cX7_undo 25 = .ok (.if_icmp .ge 29, 3) := by decide +kernel
theorem dX7_undo_28 : decode cX7_undo 28 = .ok (.aload_n 0, 1) := by decide +kernel
theorem dX7_undo_29 : decode cX7_undo 29 = .ok (.getfield 20, 3) := by decide +kernel
theorem dX7_undo_32 : decode cX7_undo 32 = .ok (.iload_n 1, 1) := by decide +kernel
theorem dX7_undo_33 : decode cX7_undo 33 = .ok (.aload_n 0, 1) := by decide +kernel
theorem dX7_undo_34 : decode cX7_undo 34 = .ok (.getfield 23, 3) := by decide +kernel
theorem dX7_undo_37 : decode cX7_undo 37 = .ok (.bipush 7, 2) := by decide +kernel
theorem dX7_undo_39 : decode cX7_undo 39 = .ok (.aload_n 0, 1) := by decide +kernel
theorem dX7_undo_40 : decode cX7_undo 40 = .ok (.getfield 137, 3) := by decide +kernel
theorem dX7_undo_43 : decode cX7_undo 43 = .ok (.imul, 1) := by decide +kernel
theorem dX7_undo_44 : decode cX7_undo 44 = .ok (.iload_n 1, 1) := by decide +kernel
theorem dX7_undo_45 : decode cX7_undo 45 = .ok (.iadd, 1) := by decide +kernel
theorem dX7_undo_46 : decode cX7_undo 46 = .ok (.iaload, 1) := by decide +kernel
theorem dX7_undo_47 : decode cX7_undo 47 = .ok (.iastore, 1) := by decide +kernel
theorem dX7_undo_48 : decode cX7_undo 48 = .ok (.iinc 1 1, 3) := by decide +kernel
theorem dX7_undo_51 : decode cX7_undo 51 = .ok (.goto (-29), 3) := by decide +kernel
theorem dX7_undo_54 : decode cX7_undo 54 = .ok (.aload_n 0, 1) := by decide +kernel
theorem dX7_undo_55 : decode cX7_undo 55 = .ok (.getfield 137, 3) := by decide +kernel
theorem dX7_undo_58 : decode cX7_undo 58 = .ok (.ireturn, 1) := by decide +kernel
theorem dX7_isFree_0 : decode cX7_isFree 0 = .ok (.aload_n 0, 1) := by decide +kernel
theorem dX7_isFree_1 : decode cX7_isFree 1 = .ok (.getfield 134, 3) := by decide +kernel
theorem dX7_isFree_4 : decode cX7_isFree 4 = .ok (.ifCond .eq 14, 3) := by decide +kernel
theorem dX7_isFree_7 : decode cX7_isFree 7 = .ok (.iload_n 1, 1) := by decide +kernel
theorem dX7_isFree_8 : decode cX7_isFree 8 = .ok (.aload_n 0, 1) := by decide +kernel
theorem dX7_isFree_9 : decode cX7_isFree 9 = .ok (.getfield 134, 3) := by decide +kernel
theorem dX7_isFree_12 : decode cX7_isFree 12 = .ok (.idiv, 1) := by decide +kernel
theorem dX7_isFree_13 : decode cX7_isFree 13 = .ok (.iconst 2, 1) := by decide +kernel
theorem dX7_isFree_14 : decode cX7_isFree 14 = .ok (.irem, 1) := by decide +kernel
theorem dX7_isFree_15 : decode cX7_isFree 15 = .ok (.ifCond .ne 7, 3) := by decide +kernel
theorem dX7_isFree_18 : decode cX7_isFree 18 = .ok (.iconst 1, 1) := by decide +kernel
theorem dX7_isFree_19 : decode cX7_isFree 19 = .ok (.goto 4, 3) := by decide +kernel
theorem dX7_isFree_22 : decode cX7_isFree 22 = .ok (.iconst 0, 1) := by decide +kernel
theorem dX7_isFree_23 : decode cX7_isFree 23 = .ok (.ireturn, 1) := by decide +kernel
theorem dX7_now_0 : decode cX7_now 0 = .ok (.iconst 0, 1) := by decide +kernel
theorem dX7_now_1 : decode cX7_now 1 = .ok (.istore_n 2, 1) := by decide +kernel
theorem dX7_now_2 : decode cX7_now 2 = .ok (.iconst 0, 1) := by decide +kernel
theorem dX7_now_3 : decode cX7_now 3 = .ok (.istore_n 3, 1) := by decide +kernel
theorem dX7_now_4 : decode cX7_now 4 = .ok (.iconst 0, 1) := by decide +kernel
theorem dX7_now_5 : decode cX7_now 5 = .ok (.istore 4, 2) := by decide +kernel
theorem dX7_now_7 : decode cX7_now 7 = .ok (.iload 4, 2) := by decide +kernel
theorem dX7_now_9 : decode cX7_now 9 = .ok (.aload_n 0, 1) := by decide +kernel
theorem dX7_now_10 : decode cX7_now 10 = .ok (.getfield 69, 3) := by decide +kernel
theorem dX7_now_13 : decode cX7_now 13 = .ok (.if_icmp .ge 43, 3) := by decide +kernel
theorem dX7_now_16 : decode cX7_now 16 = .ok (.iload_n 2, 1) := by decide +kernel
theorem dX7_now_17 : decode cX7_now 17 = .ok (.aload_n 0, 1) := by decide +kernel
theorem dX7_now_18 : decode cX7_now 18 = .ok (.getfield 20, 3) := by decide +kernel
theorem dX7_now_21 : decode cX7_now 21 = .ok (.iconst 3, 1) := by decide +kernel
theorem dX7_now_22 : decode cX7_now 22 = .ok (.iload 4, 2) := by decide +kernel
theorem dX7_now_24 : decode cX7_now 24 = .ok (.iadd, 1) := by decide +kernel
theorem dX7_now_25 : decode cX7_now 25 = .ok (.iaload, 1) := by decide +kernel
theorem dX7_now_26 : decode cX7_now 26 = .ok (.aload_n 0, 1) := by decide +kernel
theorem dX7_now_27 : decode cX7_now 27 = .ok (.getfield 7, 3) := by decide +kernel
theorem dX7_now_30 : decode cX7_now 30 = .ok (.iconst 2, 1) := by decide +kernel
theorem dX7_now_31 : decode cX7_now 31 = .ok (.iload 4, 2) := by decide +kernel
theorem dX7_now_33 : decode cX7_now 33 = .ok (.imul, 1) := by decide +kernel
theorem dX7_now_34 : decode cX7_now 34 = .ok (.iconst 1, 1) := by decide +kernel
theorem dX7_now_35 : decode cX7_now 35 = .ok (.iadd, 1) := by decide +kernel
theorem dX7_now_36 : decode cX7_now 36 = .ok (.iaload, 1) := by decide +kernel
theorem dX7_now_37 : decode cX7_now 37 = .ok (.if_icmp .le 10, 3) := by decide +kernel
theorem dX7_now_40 : decode cX7_now 40 = .ok (.iconst 1, 1) := by decide +kernel
theorem dX7_now_41 : decode cX7_now 41 = .ok (.iload 4, 2) := by decide +kernel
theorem dX7_now_43 : decode cX7_now 43 = .ok (.ishl, 1) := by decide +kernel
theorem dX7_now_44 : decode cX7_now 44 = .ok (.goto 4, 3) := by decide +kernel
theorem dX7_now_47 : decode cX7_now 47 = .ok (.iconst 0, 1) := by decide +kernel
theorem dX7_now_48 : decode cX7_now 48 = .ok (.ior, 1) := by decide +kernel
theorem dX7_now_49 : decode cX7_now 49 = .ok (.istore_n 2, 1) := by decide +kernel
theorem dX7_now_50 : decode cX7_now 50 = .ok (.iinc 4 1, 3) := by decide +kernel
theorem dX7_now_53 : decode cX7_now 53 = .ok (.goto (-46), 3) := by decide +kernel
theorem dX7_now_56 : decode cX7_now 56 = .ok (.aload_n 0, 1) := by decide +kernel
theorem dX7_now_57 : decode cX7_now 57 = .ok (.getfield 20, 3) := by decide +kernel
theorem dX7_now_60 : decode cX7_now 60 = .ok (.iconst 0, 1) := by decide +kernel
theorem dX7_now_61 : decode cX7_now 61 = .ok (.iaload, 1) := by decide +kernel
theorem dX7_now_62 : decode cX7_now 62 = .ok (.istore 4, 2) := by decide +kernel
theorem dX7_now_64 : decode cX7_now 64 = .ok (.iload 4, 2) := by decide +kernel
theorem dX7_now_66 : decode cX7_now 66 = .ok (.aload_n 0, 1) := by decide +kernel
theorem dX7_now_67 : decode cX7_now 67 = .ok (.getfield 76, 3) := by decide +kernel
theorem dX7_now_70 : decode cX7_now 70 = .ok (.if_icmp .ge 21, 3) := by decide +kernel
theorem dX7_now_73 : decode cX7_now 73 = .ok (.iload_n 3, 1) := by decide +kernel
theorem dX7_now_74 : decode cX7_now 74 = .ok (.aload_n 0, 1) := by decide +kernel
theorem dX7_now_75 : decode cX7_now 75 = .ok (.getfield 13, 3) := by decide +kernel
theorem dX7_now_78 : decode cX7_now 78 = .ok (.iconst 4, 1) := by decide +kernel
theorem dX7_now_79 : decode cX7_now 79 = .ok (.iload 4, 2) := by decide +kernel
theorem dX7_now_81 : decode cX7_now 81 = .ok (.imul, 1) := by decide +kernel
theorem dX7_now_82 : decode cX7_now 82 = .ok (.iaload, 1) := by decide +kernel
theorem dX7_now_83 : decode cX7_now 83 = .ok (.iadd, 1) := by decide +kernel
theorem dX7_now_84 : decode cX7_now 84 = .ok (.istore_n 3, 1) := by decide +kernel
theorem dX7_now_85 : decode cX7_now 85 = .ok (.iinc 4 1, 3) := by decide +kernel
theorem dX7_now_88 : decode cX7_now 88 = .ok (.goto (-24), 3) := by decide +kernel
theorem dX7_now_91 : decode cX7_now 91 = .ok (.iload_n 1, 1) := by decide +kernel
theorem dX7_now_92 : decode cX7_now 92 = .ok (.tableswitch 93 0 6 #[44, 44, 44, 51, 53, 72, 74], 44) := by decide +kernel
theorem dX7_now_136 : decode cX7_now 136 = .ok (.aload_n 0, 1) := by decide +kernel
theorem dX7_now_137 : decode cX7_now 137 = .ok (.getfield 20, 3) := by decide +kernel
theorem dX7_now_140 : decode cX7_now 140 = .ok (.iload_n 1, 1) := by decide +kernel
theorem dX7_now_141 : decode cX7_now 141 = .ok (.iaload, 1) := by decide +kernel
theorem dX7_now_142 : decode cX7_now 142 = .ok (.ireturn, 1) := by decide +kernel
theorem dX7_now_143 : decode cX7_now 143 = .ok (.iload_n 2, 1) := by decide +kernel
theorem dX7_now_144 : decode cX7_now 144 = .ok (.ireturn, 1) := by decide +kernel
theorem dX7_now_145 : decode cX7_now 145 = .ok (.aload_n 0, 1) := by decide +kernel
theorem dX7_now_146 : decode cX7_now 146 = .ok (.aload_n 0, 1) := by decide +kernel
theorem dX7_now_147 : decode cX7_now 147 = .ok (.getfield 20, 3) := by decide +kernel
theorem dX7_now_150 : decode cX7_now 150 = .ok (.iconst 1, 1) := by decide +kernel
theorem dX7_now_151 : decode cX7_now 151 = .ok (.iaload, 1) := by decide +kernel
theorem dX7_now_152 : decode cX7_now 152 = .ok (.invokevirtual 173, 3) := by decide +kernel
theorem dX7_now_155 : decode cX7_now 155 = .ok (.ifCond .eq 7, 3) := by decide +kernel
theorem dX7_now_158 : decode cX7_now 158 = .ok (.iconst 1, 1) := by decide +kernel
theorem dX7_now_159 : decode cX7_now 159 = .ok (.goto 4, 3) := by decide +kernel
theorem dX7_now_162 : decode cX7_now 162 = .ok (.iconst 0, 1) := by decide +kernel
theorem dX7_now_163 : decode cX7_now 163 = .ok (.ireturn, 1) := by decide +kernel
theorem dX7_now_164 : decode cX7_now 164 = .ok (.iload_n 3, 1) := by decide +kernel
theorem dX7_now_165 : decode cX7_now 165 = .ok (.ireturn, 1) := by decide +kernel
theorem dX7_now_166 : decode cX7_now 166 = .ok (.aload_n 0, 1) := by decide +kernel
theorem dX7_now_167 : decode cX7_now 167 = .ok (.getfield 20, 3) := by decide +kernel
theorem dX7_now_170 : decode cX7_now 170 = .ok (.iconst 0, 1) := by decide +kernel
theorem dX7_now_171 : decode cX7_now 171 = .ok (.iaload, 1) := by decide +kernel
theorem dX7_now_172 : decode cX7_now 172 = .ok (.aload_n 0, 1) := by decide +kernel
theorem dX7_now_173 : decode cX7_now 173 = .ok (.getfield 76, 3) := by decide +kernel
theorem dX7_now_176 : decode cX7_now 176 = .ok (.if_icmp .ne 7, 3) := by decide +kernel
theorem dX7_now_179 : decode cX7_now 179 = .ok (.iconst 1, 1) := by decide +kernel
theorem dX7_now_180 : decode cX7_now 180 = .ok (.goto 4, 3) := by decide +kernel
theorem dX7_now_183 : decode cX7_now 183 = .ok (.iconst 0, 1) := by decide +kernel
theorem dX7_now_184 : decode cX7_now 184 = .ok (.ireturn, 1) := by decide +kernel
theorem dX7_now_185 : decode cX7_now 185 = .ok (.iconst (-1), 1) := by decide +kernel
theorem dX7_now_186 : decode cX7_now 186 = .ok (.ireturn, 1) := by decide +kernel
theorem dX7_pairBy_0 : decode cX7_pairBy 0 = .ok (.iload_n 1, 1) := by decide +kernel
theorem dX7_pairBy_1 : decode cX7_pairBy 1 = .ok (.istore_n 2, 1) := by decide +kernel
theorem dX7_pairBy_2 : decode cX7_pairBy 2 = .ok (.iconst 0, 1) := by decide +kernel
theorem dX7_pairBy_3 : decode cX7_pairBy 3 = .ok (.istore_n 3, 1) := by decide +kernel
theorem dX7_pairBy_4 : decode cX7_pairBy 4 = .ok (.iload_n 3, 1) := by decide +kernel
theorem dX7_pairBy_5 : decode cX7_pairBy 5 = .ok (.aload_n 0, 1) := by decide +kernel
theorem dX7_pairBy_6 : decode cX7_pairBy 6 = .ok (.getfield 69, 3) := by decide +kernel
theorem dX7_pairBy_9 : decode cX7_pairBy 9 = .ok (.if_icmp .ge 41, 3) := by decide +kernel
theorem dX7_pairBy_12 : decode cX7_pairBy 12 = .ok (.aload_n 0, 1) := by decide +kernel
theorem dX7_pairBy_13 : decode cX7_pairBy 13 = .ok (.getfield 69, 3) := by decide +kernel
theorem dX7_pairBy_16 : decode cX7_pairBy 16 = .ok (.iconst 1, 1) := by decide +kernel
theorem dX7_pairBy_17 : decode cX7_pairBy 17 = .ok (.isub, 1) := by decide +kernel
theorem dX7_pairBy_18 : decode cX7_pairBy 18 = .ok (.iload_n 3, 1) := by decide +kernel
theorem dX7_pairBy_19 : decode cX7_pairBy 19 = .ok (.isub, 1) := by decide +kernel
theorem dX7_pairBy_20 : decode cX7_pairBy 20 = .ok (.istore 4, 2) := by decide +kernel
theorem dX7_pairBy_22 : decode cX7_pairBy 22 = .ok (.iload_n 2, 1) := by decide +kernel
theorem dX7_pairBy_23 : decode cX7_pairBy 23 = .ok (.iload 4, 2) := by decide +kernel
theorem dX7_pairBy_25 : decode cX7_pairBy 25 = .ok (.if_icmp .ge 14, 3) := by decide +kernel
theorem dX7_pairBy_28 : decode cX7_pairBy 28 = .ok (.bipush 10, 2) := by decide +kernel
theorem dX7_pairBy_30 : decode cX7_pairBy 30 = .ok (.iload_n 3, 1) := by decide +kernel
theorem dX7_pairBy_31 : decode cX7_pairBy 31 = .ok (.imul, 1) := by decide +kernel
theorem dX7_pairBy_32 : decode cX7_pairBy 32 = .ok (.iload_n 3, 1) := by decide +kernel
theorem dX7_pairBy_33 : decode cX7_pairBy 33 = .ok (.iadd, 1) := by decide +kernel
theorem dX7_pairBy_34 : decode cX7_pairBy 34 = .ok (.iconst 1, 1) := by decide +kernel
theorem dX7_pairBy_35 : decode cX7_pairBy 35 = .ok (.iadd, 1) := by decide +kernel
theorem dX7_pairBy_36 : decode cX7_pairBy 36 = .ok (.iload_n 2, 1) := by decide +kernel
theorem dX7_pairBy_37 : decode cX7_pairBy 37 = .ok (.iadd, 1) := by decide +kernel
theorem dX7_pairBy_38 : decode cX7_pairBy 38 = .ok (.ireturn, 1) := by decide +kernel
theorem dX7_pairBy_39 : decode cX7_pairBy 39 = .ok (.iload_n 2, 1) := by decide +kernel
theorem dX7_pairBy_40 : decode cX7_pairBy 40 = .ok (.iload 4, 2) := by decide +kernel
theorem dX7_pairBy_42 : decode cX7_pairBy 42 = .ok (.isub, 1) := by decide +kernel
theorem dX7_pairBy_43 : decode cX7_pairBy 43 = .ok (.istore_n 2, 1) := by decide +kernel
theorem dX7_pairBy_44 : decode cX7_pairBy 44 = .ok (.iinc 3 1, 3) := by decide +kernel
theorem dX7_pairBy_47 : decode cX7_pairBy 47 = .ok (.goto (-43), 3) := by decide +kernel
theorem dX7_pairBy_50 : decode cX7_pairBy 50 = .ok (.iconst (-1), 1) := by decide +kernel
theorem dX7_pairBy_51 : decode cX7_pairBy 51 = .ok (.ireturn, 1) := by decide +kernel
theorem dX7_isAsSeen_0 : decode cX7_isAsSeen 0 = .ok (.iconst 1, 1) := by decide +kernel
theorem dX7_isAsSeen_1 : decode cX7_isAsSeen 1 = .ok (.istore_n 3, 1) := by decide +kernel
theorem dX7_isAsSeen_2 : decode cX7_isAsSeen 2 = .ok (.iconst 0, 1) := by decide +kernel
theorem dX7_isAsSeen_3 : decode cX7_isAsSeen 3 = .ok (.istore 4, 2) := by decide +kernel
theorem dX7_isAsSeen_5 : decode cX7_isAsSeen 5 = .ok (.iload 4, 2) := by decide +kernel
theorem dX7_isAsSeen_7 : decode cX7_isAsSeen 7 = .ok (.aload_n 0, 1) := by decide +kernel
theorem dX7_isAsSeen_8 : decode cX7_isAsSeen 8 = .ok (.getfield 140, 3) := by decide +kernel
theorem dX7_isAsSeen_11 : decode cX7_isAsSeen 11 = .ok (.if_icmp .ge 47, 3) := by decide +kernel
theorem dX7_isAsSeen_14 : decode cX7_isAsSeen 14 = .ok (.iload_n 3, 1) := by decide +kernel
theorem dX7_isAsSeen_15 : decode cX7_isAsSeen 15 = .ok (.ifCond .eq 35, 3) := by decide +kernel
theorem dX7_isAsSeen_18 : decode cX7_isAsSeen 18 = .ok (.aload_n 0, 1) := by decide +kernel
theorem dX7_isAsSeen_19 : decode cX7_isAsSeen 19 = .ok (.getfield 33, 3) := by decide +kernel
theorem dX7_isAsSeen_22 : decode cX7_isAsSeen 22 = .ok (.iconst 2, 1) := by decide +kernel
theorem dX7_isAsSeen_23 : decode cX7_isAsSeen 23 = .ok (.iload 4, 2) := by decide +kernel
theorem dX7_isAsSeen_25 : decode cX7_isAsSeen 25 = .ok (.imul, 1) := by decide +kernel
theorem dX7_isAsSeen_26 : decode cX7_isAsSeen 26 = .ok (.iaload, 1) := by decide +kernel
theorem dX7_isAsSeen_27 : decode cX7_isAsSeen 27 = .ok (.iload_n 1, 1) := by decide +kernel
theorem dX7_isAsSeen_28 : decode cX7_isAsSeen 28 = .ok (.if_icmp .ne 18, 3) := by decide +kernel
theorem dX7_isAsSeen_31 : decode cX7_isAsSeen 31 = .ok (.aload_n 0, 1) := by decide +kernel
theorem dX7_isAsSeen_32 : decode cX7_isAsSeen 32 = .ok (.getfield 33, 3) := by decide +kernel
theorem dX7_isAsSeen_35 : decode cX7_isAsSeen 35 = .ok (.iconst 2, 1) := by decide +kernel
theorem dX7_isAsSeen_36 : decode cX7_isAsSeen 36 = .ok (.iload 4, 2) := by decide +kernel
theorem dX7_isAsSeen_38 : decode cX7_isAsSeen 38 = .ok (.imul, 1) := by decide +kernel
theorem dX7_isAsSeen_39 : decode cX7_isAsSeen 39 = .ok (.iconst 1, 1) := by decide +kernel
theorem dX7_isAsSeen_40 : decode cX7_isAsSeen 40 = .ok (.iadd, 1) := by decide +kernel
theorem dX7_isAsSeen_41 : decode cX7_isAsSeen 41 = .ok (.iaload, 1) := by decide +kernel
theorem dX7_isAsSeen_42 : decode cX7_isAsSeen 42 = .ok (.iload_n 2, 1) := by decide +kernel
theorem dX7_isAsSeen_43 : decode cX7_isAsSeen 43 = .ok (.if_icmp .ne 7, 3) := by decide +kernel
theorem dX7_isAsSeen_46 : decode cX7_isAsSeen 46 = .ok (.iconst 1, 1) := by decide +kernel
theorem dX7_isAsSeen_47 : decode cX7_isAsSeen 47 = .ok (.goto 4, 3) := by decide +kernel
theorem dX7_isAsSeen_50 : decode cX7_isAsSeen 50 = .ok (.iconst 0, 1) := by decide +kernel
theorem dX7_isAsSeen_51 : decode cX7_isAsSeen 51 = .ok (.istore_n 3, 1) := by decide +kernel
theorem dX7_isAsSeen_52 : decode cX7_isAsSeen 52 = .ok (.iinc 4 1, 3) := by decide +kernel
theorem dX7_isAsSeen_55 : decode cX7_isAsSeen 55 = .ok (.goto (-50), 3) := by decide +kernel
theorem dX7_isAsSeen_58 : decode cX7_isAsSeen 58 = .ok (.iload_n 3, 1) := by decide +kernel
theorem dX7_isAsSeen_59 : decode cX7_isAsSeen 59 = .ok (.ireturn, 1) := by decide +kernel
theorem dX7_goesDown_0 : decode cX7_goesDown 0 = .ok (.aload_n 0, 1) := by decide +kernel
theorem dX7_goesDown_1 : decode cX7_goesDown 1 = .ok (.iload_n 3, 1) := by decide +kernel
theorem dX7_goesDown_2 : decode cX7_goesDown 2 = .ok (.bipush 10, 2) := by decide +kernel
theorem dX7_goesDown_4 : decode cX7_goesDown 4 = .ok (.idiv, 1) := by decide +kernel
theorem dX7_goesDown_5 : decode cX7_goesDown 5 = .ok (.iload_n 1, 1) := by decide +kernel
theorem dX7_goesDown_6 : decode cX7_goesDown 6 = .ok (.invokevirtual 143, 3) := by decide +kernel
theorem dX7_goesDown_9 : decode cX7_goesDown 9 = .ok (.ifCond .ne 15, 3) := by decide +kernel
theorem dX7_goesDown_12 : decode cX7_goesDown 12 = .ok (.aload_n 0, 1) := by decide +kernel
theorem dX7_goesDown_13 : decode cX7_goesDown 13 = .ok (.iload_n 3, 1) := by decide +kernel
theorem dX7_goesDown_14 : decode cX7_goesDown 14 = .ok (.bipush 10, 2) := by decide +kernel
theorem dX7_goesDown_16 : decode cX7_goesDown 16 = .ok (.irem, 1) := by decide +kernel
theorem dX7_goesDown_17 : decode cX7_goesDown 17 = .ok (.iload_n 1, 1) := by decide +kernel
theorem dX7_goesDown_18 : decode cX7_goesDown 18 = .ok (.invokevirtual 143, 3) := by decide +kernel
theorem dX7_goesDown_21 : decode cX7_goesDown 21 = .ok (.ifCond .eq 7, 3) := by decide +kernel
theorem dX7_goesDown_24 : decode cX7_goesDown 24 = .ok (.iconst 1, 1) := by decide +kernel
theorem dX7_goesDown_25 : decode cX7_goesDown 25 = .ok (.goto 4, 3) := by decide +kernel
theorem dX7_goesDown_28 : decode cX7_goesDown 28 = .ok (.iconst 0, 1) := by decide +kernel
theorem dX7_goesDown_29 : decode cX7_goesDown 29 = .ok (.istore 5, 2) := by decide +kernel
theorem dX7_goesDown_31 : decode cX7_goesDown 31 = .ok (.aload_n 0, 1) := by decide +kernel
theorem dX7_goesDown_32 : decode cX7_goesDown 32 = .ok (.iload_n 1, 1) := by decide +kernel
theorem dX7_goesDown_33 : decode cX7_goesDown 33 = .ok (.iload_n 2, 1) := by decide +kernel
theorem dX7_goesDown_34 : decode cX7_goesDown 34 = .ok (.iload_n 3, 1) := by decide +kernel
theorem dX7_goesDown_35 : decode cX7_goesDown 35 = .ok (.invokevirtual 158, 3) := by decide +kernel
theorem dX7_goesDown_38 : decode cX7_goesDown 38 = .ok (.iload 4, 2) := by decide +kernel
theorem dX7_goesDown_40 : decode cX7_goesDown 40 = .ok (.ifCond .eq 33, 3) := by decide +kernel
theorem dX7_goesDown_43 : decode cX7_goesDown 43 = .ok (.iload 4, 2) := by decide +kernel
theorem dX7_goesDown_45 : decode cX7_goesDown 45 = .ok (.iconst 1, 1) := by decide +kernel
theorem dX7_goesDown_46 : decode cX7_goesDown 46 = .ok (.if_icmp .ne 11, 3) := by decide +kernel
theorem dX7_goesDown_49 : decode cX7_goesDown 49 = .ok (.iload 5, 2) := by decide +kernel
theorem dX7_goesDown_51 : decode cX7_goesDown 51 = .ok (.ifCond .ne 26, 3) := by decide +kernel
theorem dX7_goesDown_54 : decode cX7_goesDown 54 = .ok (.goto 19, 3) := by decide +kernel
theorem dX7_goesDown_57 : decode cX7_goesDown 57 = .ok (.aload_n 0, 1) := by decide +kernel
theorem dX7_goesDown_58 : decode cX7_goesDown 58 = .ok (.iload_n 2, 1) := by decide +kernel
theorem dX7_goesDown_59 : decode cX7_goesDown 59 = .ok (.aload_n 0, 1) := by decide +kernel
theorem dX7_goesDown_60 : decode cX7_goesDown 60 = .ok (.getfield 51, 3) := by decide +kernel
theorem dX7_goesDown_63 : decode cX7_goesDown 63 = .ok (.iload_n 1, 1) := by decide +kernel
theorem dX7_goesDown_64 : decode cX7_goesDown 64 = .ok (.iconst 1, 1) := by decide +kernel
theorem dX7_goesDown_65 : decode cX7_goesDown 65 = .ok (.iadd, 1) := by decide +kernel
theorem dX7_goesDown_66 : decode cX7_goesDown 66 = .ok (.iaload, 1) := by decide +kernel
theorem dX7_goesDown_67 : decode cX7_goesDown 67 = .ok (.invokevirtual 176, 3) := by decide +kernel
theorem dX7_goesDown_70 : decode cX7_goesDown 70 = .ok (.ifCond .eq 7, 3) := by decide +kernel
theorem dX7_goesDown_73 : decode cX7_goesDown 73 = .ok (.iconst 1, 1) := by decide +kernel
theorem dX7_goesDown_74 : decode cX7_goesDown 74 = .ok (.goto 4, 3) := by decide +kernel
theorem dX7_goesDown_77 : decode cX7_goesDown 77 = .ok (.iconst 0, 1) := by decide +kernel
theorem dX7_goesDown_78 : decode cX7_goesDown 78 = .ok (.ireturn, 1) := by decide +kernel
theorem dX7_finds_0 : decode cX7_finds 0 = .ok (.aload_n 0, 1) := by decide +kernel
theorem dX7_finds_1 : decode cX7_finds 1 = .ok (.getfield 179, 3) := by decide +kernel
theorem dX7_finds_4 : decode cX7_finds 4 = .ok (.ifCond .eq 21, 3) := by decide +kernel
theorem dX7_finds_7 : decode cX7_finds 7 = .ok (.iload_n 2, 1) := by decide +kernel
theorem dX7_finds_8 : decode cX7_finds 8 = .ok (.iconst 2, 1) := by decide +kernel
theorem dX7_finds_9 : decode cX7_finds 9 = .ok (.if_icmp .eq 20, 3) := by decide +kernel
theorem dX7_finds_12 : decode cX7_finds 12 = .ok (.aload_n 0, 1) := by decide +kernel
theorem dX7_finds_13 : decode cX7_finds 13 = .ok (.getfield 51, 3) := by decide +kernel
theorem dX7_finds_16 : decode cX7_finds 16 = .ok (.iload_n 1, 1) := by decide +kernel
theorem dX7_finds_17 : decode cX7_finds 17 = .ok (.iaload, 1) := by decide +kernel
theorem dX7_finds_18 : decode cX7_finds 18 = .ok (.aload_n 0, 1) := by decide +kernel
theorem dX7_finds_19 : decode cX7_finds 19 = .ok (.getfield 182, 3) := by decide +kernel
theorem dX7_finds_22 : decode cX7_finds 22 = .ok (.if_icmp .ge 7, 3) := by decide +kernel
theorem dX7_finds_25 : decode cX7_finds 25 = .ok (.iconst 1, 1) := by decide +kernel
theorem dX7_finds_26 : decode cX7_finds 26 = .ok (.goto 4, 3) := by decide +kernel
theorem dX7_finds_29 : decode cX7_finds 29 = .ok (.iconst 0, 1) := by decide +kernel
theorem dX7_finds_30 : decode cX7_finds 30 = .ok (.istore_n 3, 1) := by decide +kernel
theorem dX7_finds_31 : decode cX7_finds 31 = .ok (.iconst 0, 1) := by decide +kernel
theorem dX7_finds_32 : decode cX7_finds 32 = .ok (.istore 4, 2) := by decide +kernel
theorem dX7_finds_34 : decode cX7_finds 34 = .ok (.iload 4, 2) := by decide +kernel
theorem dX7_finds_36 : decode cX7_finds 36 = .ok (.iload_n 1, 1) := by decide +kernel
theorem dX7_finds_37 : decode cX7_finds 37 = .ok (.if_icmp .ge 89, 3) := by decide +kernel
theorem dX7_finds_40 : decode cX7_finds 40 = .ok (.aload_n 0, 1) := by decide +kernel
theorem dX7_finds_41 : decode cX7_finds 41 = .ok (.getfield 54, 3) := by decide +kernel
theorem dX7_finds_44 : decode cX7_finds 44 = .ok (.iload 4, 2) := by decide +kernel
theorem dX7_finds_46 : decode cX7_finds 46 = .ok (.iconst 1, 1) := by decide +kernel
theorem dX7_finds_47 : decode cX7_finds 47 = .ok (.iadd, 1) := by decide +kernel
theorem dX7_finds_48 : decode cX7_finds 48 = .ok (.iaload, 1) := by decide +kernel
theorem dX7_finds_49 : decode cX7_finds 49 = .ok (.istore 5, 2) := by decide +kernel
theorem dX7_finds_51 : decode cX7_finds 51 = .ok (.iconst 1, 1) := by decide +kernel
theorem dX7_finds_52 : decode cX7_finds 52 = .ok (.iload 5, 2) := by decide +kernel
theorem dX7_finds_54 : decode cX7_finds 54 = .ok (.bipush 10, 2) := by decide +kernel
theorem dX7_finds_56 : decode cX7_finds 56 = .ok (.idiv, 1) := by decide +kernel
theorem dX7_finds_57 : decode cX7_finds 57 = .ok (.ishl, 1) := by decide +kernel
theorem dX7_finds_58 : decode cX7_finds 58 = .ok (.iconst 1, 1) := by decide +kernel
theorem dX7_finds_59 : decode cX7_finds 59 = .ok (.iload 5, 2) := by decide +kernel
theorem dX7_finds_61 : decode cX7_finds 61 = .ok (.bipush 10, 2) := by decide +kernel
theorem dX7_finds_63 : decode cX7_finds 63 = .ok (.irem, 1) := by decide +kernel
theorem dX7_finds_64 : decode cX7_finds 64 = .ok (.ishl, 1) := by decide +kernel
theorem dX7_finds_65 : decode cX7_finds 65 = .ok (.ior, 1) := by decide +kernel
theorem dX7_finds_66 : decode cX7_finds 66 = .ok (.istore 6, 2) := by decide +kernel
theorem dX7_finds_68 : decode cX7_finds 68 = .ok (.aload_n 0, 1) := by decide +kernel
theorem dX7_finds_69 : decode cX7_finds 69 = .ok (.getfield 60, 3) := by decide +kernel
theorem dX7_finds_72 : decode cX7_finds 72 = .ok (.iload 4, 2) := by decide +kernel
theorem dX7_finds_74 : decode cX7_finds 74 = .ok (.iload_n 3, 1) := by decide +kernel
theorem dX7_finds_75 : decode cX7_finds 75 = .ok (.ifCond .eq 8, 3) := by decide +kernel
theorem dX7_finds_78 : decode cX7_finds 78 = .ok (.iload 5, 2) := by decide +kernel
theorem dX7_finds_80 : decode cX7_finds 80 = .ok (.goto 10, 3) := by decide +kernel
theorem dX7_finds_83 : decode cX7_finds 83 = .ok (.aload_n 0, 1) := by decide +kernel
theorem dX7_finds_84 : decode cX7_finds 84 = .ok (.getfield 60, 3) := by decide +kernel
theorem dX7_finds_87 : decode cX7_finds 87 = .ok (.iload 4, 2) := by decide +kernel
theorem dX7_finds_89 : decode cX7_finds 89 = .ok (.iaload, 1) := by decide +kernel
theorem dX7_finds_90 : decode cX7_finds 90 = .ok (.iastore, 1) := by decide +kernel
theorem dX7_finds_91 : decode cX7_finds 91 = .ok (.aload_n 0, 1) := by decide +kernel
theorem dX7_finds_92 : decode cX7_finds 92 = .ok (.getfield 63, 3) := by decide +kernel
theorem dX7_finds_95 : decode cX7_finds 95 = .ok (.iload 4, 2) := by decide +kernel
theorem dX7_finds_97 : decode cX7_finds 97 = .ok (.aload_n 0, 1) := by decide +kernel
theorem dX7_finds_98 : decode cX7_finds 98 = .ok (.getfield 179, 3) := by decide +kernel
theorem dX7_finds_101 : decode cX7_finds 101 = .ok (.ifCond .ne 8, 3) := by decide +kernel
theorem dX7_finds_104 : decode cX7_finds 104 = .ok (.iload 6, 2) := by decide +kernel
theorem dX7_finds_106 : decode cX7_finds 106 = .ok (.goto 13, 3) := by decide +kernel
theorem dX7_finds_109 : decode cX7_finds 109 = .ok (.aload_n 0, 1) := by decide +kernel
theorem dX7_finds_110 : decode cX7_finds 110 = .ok (.getfield 63, 3) := by decide +kernel
theorem dX7_finds_113 : decode cX7_finds 113 = .ok (.iload 4, 2) := by decide +kernel
theorem dX7_finds_115 : decode cX7_finds 115 = .ok (.iaload, 1) := by decide +kernel
theorem dX7_finds_116 : decode cX7_finds 116 = .ok (.iload 6, 2) := by decide +kernel
theorem dX7_finds_118 : decode cX7_finds 118 = .ok (.iand, 1) := by decide +kernel
theorem dX7_finds_119 : decode cX7_finds 119 = .ok (.iastore, 1) := by decide +kernel
theorem dX7_finds_120 : decode cX7_finds 120 = .ok (.iinc 4 1, 3) := by decide +kernel
theorem dX7_finds_123 : decode cX7_finds 123 = .ok (.goto (-89), 3) := by decide +kernel
theorem dX7_finds_126 : decode cX7_finds 126 = .ok (.aload_n 0, 1) := by decide +kernel
theorem dX7_finds_127 : decode cX7_finds 127 = .ok (.iload_n 3, 1) := by decide +kernel
theorem dX7_finds_128 : decode cX7_finds 128 = .ok (.ifCond .eq 12, 3) := by decide +kernel
theorem dX7_finds_131 : decode cX7_finds 131 = .ok (.aload_n 0, 1) := by decide +kernel
theorem dX7_finds_132 : decode cX7_finds 132 = .ok (.getfield 51, 3) := by decide +kernel
theorem dX7_finds_135 : decode cX7_finds 135 = .ok (.iload_n 1, 1) := by decide +kernel
theorem dX7_finds_136 : decode cX7_finds 136 = .ok (.iaload, 1) := by decide +kernel
theorem dX7_finds_137 : decode cX7_finds 137 = .ok (.goto 7, 3) := by decide +kernel
theorem dX7_finds_140 : decode cX7_finds 140 = .ok (.aload_n 0, 1) := by decide +kernel
theorem dX7_finds_141 : decode cX7_finds 141 = .ok (.getfield 182, 3) := by decide +kernel
theorem dX7_finds_144 : decode cX7_finds 144 = .ok (.putfield 182, 3) := by decide +kernel
theorem dX7_finds_147 : decode cX7_finds 147 = .ok (.aload_n 0, 1) := by decide +kernel
theorem dX7_finds_148 : decode cX7_finds 148 = .ok (.dup, 1) := by decide +kernel
theorem dX7_finds_149 : decode cX7_finds 149 = .ok (.getfield 179, 3) := by decide +kernel
theorem dX7_finds_152 : decode cX7_finds 152 = .ok (.iconst 1, 1) := by decide +kernel
theorem dX7_finds_153 : decode cX7_finds 153 = .ok (.iadd, 1) := by decide +kernel
theorem dX7_finds_154 : decode cX7_finds 154 = .ok (.putfield 179, 3) := by decide +kernel
theorem dX7_finds_157 : decode cX7_finds 157 = .ok (.return_, 1) := by decide +kernel
theorem dX7_search_0 : decode cX7_search 0 = .ok (.aload_n 0, 1) := by decide +kernel
theorem dX7_search_1 : decode cX7_search 1 = .ok (.getfield 76, 3) := by decide +kernel
theorem dX7_search_4 : decode cX7_search 4 = .ok (.iload_n 1, 1) := by decide +kernel
theorem dX7_search_5 : decode cX7_search 5 = .ok (.isub, 1) := by decide +kernel
theorem dX7_search_6 : decode cX7_search 6 = .ok (.istore_n 3, 1) := by decide +kernel
theorem dX7_search_7 : decode cX7_search 7 = .ok (.aload_n 0, 1) := by decide +kernel
theorem dX7_search_8 : decode cX7_search 8 = .ok (.iconst 0, 1) := by decide +kernel
theorem dX7_search_9 : decode cX7_search 9 = .ok (.putfield 179, 3) := by decide +kernel
theorem dX7_search_12 : decode cX7_search 12 = .ok (.aload_n 0, 1) := by decide +kernel
theorem dX7_search_13 : decode cX7_search 13 = .ok (.iconst 0, 1) := by decide +kernel
theorem dX7_search_14 : decode cX7_search 14 = .ok (.putfield 182, 3) := by decide +kernel
theorem dX7_search_17 : decode cX7_search 17 = .ok (.iconst 0, 1) := by decide +kernel
theorem dX7_search_18 : decode cX7_search 18 = .ok (.istore 4, 2) := by decide +kernel
theorem dX7_search_20 : decode cX7_search 20 = .ok (.aload_n 0, 1) := by decide +kernel
theorem dX7_search_21 : decode cX7_search 21 = .ok (.getfield 57, 3) := by decide +kernel
theorem dX7_search_24 : decode cX7_search 24 = .ok (.iconst 0, 1) := by decide +kernel
theorem dX7_search_25 : decode cX7_search 25 = .ok (.iconst 0, 1) := by decide +kernel
theorem dX7_search_26 : decode cX7_search 26 = .ok (.iastore, 1) := by decide +kernel
theorem dX7_search_27 : decode cX7_search 27 = .ok (.iload 4, 2) := by decide +kernel
theorem dX7_search_29 : decode cX7_search 29 = .ok (.ifCond .lt 86, 3) := by decide +kernel
theorem dX7_search_32 : decode cX7_search 32 = .ok (.iload 4, 2) := by decide +kernel
theorem dX7_search_34 : decode cX7_search 34 = .ok (.iload_n 3, 1) := by decide +kernel
theorem dX7_search_35 : decode cX7_search 35 = .ok (.if_icmp .ne 15, 3) := by decide +kernel
theorem dX7_search_38 : decode cX7_search 38 = .ok (.aload_n 0, 1) := by decide +kernel
theorem dX7_search_39 : decode cX7_search 39 = .ok (.iload_n 3, 1) := by decide +kernel
theorem dX7_search_40 : decode cX7_search 40 = .ok (.iload_n 2, 1) := by decide +kernel
theorem dX7_search_41 : decode cX7_search 41 = .ok (.invokevirtual 185, 3) := by decide +kernel
theorem dX7_search_44 : decode cX7_search 44 = .ok (.iinc 4 (-1), 3) := by decide +kernel
theorem dX7_search_47 : decode cX7_search 47 = .ok (.goto (-20), 3) := by decide +kernel
theorem dX7_search_50 : decode cX7_search 50 = .ok (.aload_n 0, 1) := by decide +kernel
theorem dX7_search_51 : decode cX7_search 51 = .ok (.aload_n 0, 1) := by decide +kernel
theorem dX7_search_52 : decode cX7_search 52 = .ok (.getfield 57, 3) := by decide +kernel
theorem dX7_search_55 : decode cX7_search 55 = .ok (.iload 4, 2) := by decide +kernel
theorem dX7_search_57 : decode cX7_search 57 = .ok (.iaload, 1) := by decide +kernel
theorem dX7_search_58 : decode cX7_search 58 = .ok (.invokevirtual 189, 3) := by decide +kernel
theorem dX7_search_61 : decode cX7_search 61 = .ok (.istore 5, 2) := by decide +kernel
theorem dX7_search_63 : decode cX7_search 63 = .ok (.aload_n 0, 1) := by decide +kernel
theorem dX7_search_64 : decode cX7_search 64 = .ok (.getfield 57, 3) := by decide +kernel
theorem dX7_search_67 : decode cX7_search 67 = .ok (.iload 4, 2) := by decide +kernel
theorem dX7_search_69 : decode cX7_search 69 = .ok (.dup2, 1) := by decide +kernel
theorem dX7_search_70 : decode cX7_search 70 = .ok (.iaload, 1) := by decide +kernel
theorem dX7_search_71 : decode cX7_search 71 = .ok (.iconst 1, 1) := by decide +kernel
theorem dX7_search_72 : decode cX7_search 72 = .ok (.iadd, 1) := by decide +kernel
theorem dX7_search_73 : decode cX7_search 73 = .ok (.iastore, 1) := by decide +kernel
theorem dX7_search_74 : decode cX7_search 74 = .ok (.iload 5, 2) := by decide +kernel
theorem dX7_search_76 : decode cX7_search 76 = .ok (.ifCond .ge 9, 3) := by decide +kernel
theorem dX7_search_79 : decode cX7_search 79 = .ok (.iinc 4 (-1), 3) := by decide +kernel
theorem dX7_search_82 : decode cX7_search 82 = .ok (.goto 30, 3) := by decide +kernel
theorem dX7_search_85 : decode cX7_search 85 = .ok (.aload_n 0, 1) := by decide +kernel
theorem dX7_search_86 : decode cX7_search 86 = .ok (.iload 4, 2) := by decide +kernel
theorem dX7_search_88 : decode cX7_search 88 = .ok (.iload_n 1, 1) := by decide +kernel
theorem dX7_search_89 : decode cX7_search 89 = .ok (.iload 4, 2) := by decide +kernel
theorem dX7_search_91 : decode cX7_search 91 = .ok (.iadd, 1) := by decide +kernel
theorem dX7_search_92 : decode cX7_search 92 = .ok (.iload 5, 2) := by decide +kernel
theorem dX7_search_94 : decode cX7_search 94 = .ok (.iload_n 2, 1) := by decide +kernel
theorem dX7_search_95 : decode cX7_search 95 = .ok (.invokevirtual 192, 3) := by decide +kernel
theorem dX7_search_98 : decode cX7_search 98 = .ok (.ifCond .eq 14, 3) := by decide +kernel
theorem dX7_search_101 : decode cX7_search 101 = .ok (.iinc 4 1, 3) := by decide +kernel
theorem dX7_search_104 : decode cX7_search 104 = .ok (.aload_n 0, 1) := by decide +kernel
theorem dX7_search_105 : decode cX7_search 105 = .ok (.getfield 57, 3) := by decide +kernel
theorem dX7_search_108 : decode cX7_search 108 = .ok (.iload 4, 2) := by decide +kernel
theorem dX7_search_110 : decode cX7_search 110 = .ok (.iconst 0, 1) := by decide +kernel
theorem dX7_search_111 : decode cX7_search 111 = .ok (.iastore, 1) := by decide +kernel
theorem dX7_search_112 : decode cX7_search 112 = .ok (.goto (-85), 3) := by decide +kernel
theorem dX7_search_115 : decode cX7_search 115 = .ok (.return_, 1) := by decide +kernel
theorem dX7_told_0 : decode cX7_told 0 = .ok (.iload_n 1, 1) := by decide +kernel
theorem dX7_told_1 : decode cX7_told 1 = .ok (.iconst (-1), 1) := by decide +kernel
theorem dX7_told_2 : decode cX7_told 2 = .ok (.iconst 5, 1) := by decide +kernel
theorem dX7_told_3 : decode cX7_told 3 = .ok (.invokestatic 72, 3) := by decide +kernel
theorem dX7_told_6 : decode cX7_told 6 = .ok (.ifCond .ne 5, 3) := by decide +kernel
theorem dX7_told_9 : decode cX7_told 9 = .ok (.iconst (-1), 1) := by decide +kernel
theorem dX7_told_10 : decode cX7_told 10 = .ok (.ireturn, 1) := by decide +kernel
theorem dX7_told_11 : decode cX7_told 11 = .ok (.aload_n 0, 1) := by decide +kernel
theorem dX7_told_12 : decode cX7_told 12 = .ok (.getfield 20, 3) := by decide +kernel
theorem dX7_told_15 : decode cX7_told 15 = .ok (.iconst 0, 1) := by decide +kernel
theorem dX7_told_16 : decode cX7_told 16 = .ok (.iaload, 1) := by decide +kernel
theorem dX7_told_17 : decode cX7_told 17 = .ok (.aload_n 0, 1) := by decide +kernel
theorem dX7_told_18 : decode cX7_told 18 = .ok (.getfield 76, 3) := by decide +kernel
theorem dX7_told_21 : decode cX7_told 21 = .ok (.if_icmp .eq 11, 3) := by decide +kernel
theorem dX7_told_24 : decode cX7_told 24 = .ok (.aload_n 0, 1) := by decide +kernel
theorem dX7_told_25 : decode cX7_told 25 = .ok (.getfield 69, 3) := by decide +kernel
theorem dX7_told_28 : decode cX7_told 28 = .ok (.iconst 2, 1) := by decide +kernel
theorem dX7_told_29 : decode cX7_told 29 = .ok (.if_icmp .ge 6, 3) := by decide +kernel
theorem dX7_told_32 : decode cX7_told 32 = .ok (.bipush (-9), 2) := by decide +kernel
theorem dX7_told_34 : decode cX7_told 34 = .ok (.ireturn, 1) := by decide +kernel
theorem dX7_told_35 : decode cX7_told 35 = .ok (.aload_n 0, 1) := by decide +kernel
theorem dX7_told_36 : decode cX7_told 36 = .ok (.invokevirtual 155, 3) := by decide +kernel
theorem dX7_told_39 : decode cX7_told 39 = .ok (.aload_n 0, 1) := by decide +kernel
theorem dX7_told_40 : decode cX7_told 40 = .ok (.aload_n 0, 1) := by decide +kernel
theorem dX7_told_41 : decode cX7_told 41 = .ok (.getfield 20, 3) := by decide +kernel
theorem dX7_told_44 : decode cX7_told 44 = .ok (.iconst 0, 1) := by decide +kernel
theorem dX7_told_45 : decode cX7_told 45 = .ok (.iaload, 1) := by decide +kernel
theorem dX7_told_46 : decode cX7_told 46 = .ok (.iload_n 2, 1) := by decide +kernel
theorem dX7_told_47 : decode cX7_told 47 = .ok (.invokevirtual 196, 3) := by decide +kernel
theorem dX7_told_50 : decode cX7_told 50 = .ok (.aload_n 0, 1) := by decide +kernel
theorem dX7_told_51 : decode cX7_told 51 = .ok (.getfield 179, 3) := by decide +kernel
theorem dX7_told_54 : decode cX7_told 54 = .ok (.ifCond .eq 27, 3) := by decide +kernel
theorem dX7_told_57 : decode cX7_told 57 = .ok (.iload_n 1, 1) := by decide +kernel
theorem dX7_told_58 : decode cX7_told 58 = .ok (.aload_n 0, 1) := by decide +kernel
theorem dX7_told_59 : decode cX7_told 59 = .ok (.getfield 76, 3) := by decide +kernel
theorem dX7_told_62 : decode cX7_told 62 = .ok (.if_icmp .ge 19, 3) := by decide +kernel
theorem dX7_told_65 : decode cX7_told 65 = .ok (.iload_n 1, 1) := by decide +kernel
theorem dX7_told_66 : decode cX7_told 66 = .ok (.iconst 0, 1) := by decide +kernel
theorem dX7_told_67 : decode cX7_told 67 = .ok (.aload_n 0, 1) := by decide +kernel
theorem dX7_told_68 : decode cX7_told 68 = .ok (.getfield 20, 3) := by decide +kernel
theorem dX7_told_71 : decode cX7_told 71 = .ok (.iconst 0, 1) := by decide +kernel
theorem dX7_told_72 : decode cX7_told 72 = .ok (.iaload, 1) := by decide +kernel
theorem dX7_told_73 : decode cX7_told 73 = .ok (.iconst 1, 1) := by decide +kernel
theorem dX7_told_74 : decode cX7_told 74 = .ok (.isub, 1) := by decide +kernel
theorem dX7_told_75 : decode cX7_told 75 = .ok (.invokestatic 72, 3) := by decide +kernel
theorem dX7_told_78 : decode cX7_told 78 = .ok (.ifCond .eq 6, 3) := by decide +kernel
theorem dX7_told_81 : decode cX7_told 81 = .ok (.bipush (-9), 2) := by decide +kernel
theorem dX7_told_83 : decode cX7_told 83 = .ok (.ireturn, 1) := by decide +kernel
theorem dX7_told_84 : decode cX7_told 84 = .ok (.iload_n 1, 1) := by decide +kernel
theorem dX7_told_85 : decode cX7_told 85 = .ok (.ifCond .ge 10, 3) := by decide +kernel
theorem dX7_told_88 : decode cX7_told 88 = .ok (.aload_n 0, 1) := by decide +kernel
theorem dX7_told_89 : decode cX7_told 89 = .ok (.getfield 182, 3) := by decide +kernel
theorem dX7_told_92 : decode cX7_told 92 = .ok (.goto 16, 3) := by decide +kernel
theorem dX7_told_95 : decode cX7_told 95 = .ok (.aload_n 0, 1) := by decide +kernel
theorem dX7_told_96 : decode cX7_told 96 = .ok (.getfield 60, 3) := by decide +kernel
theorem dX7_told_99 : decode cX7_told 99 = .ok (.iload_n 1, 1) := by decide +kernel
theorem dX7_told_100 : decode cX7_told 100 = .ok (.aload_n 0, 1) := by decide +kernel
theorem dX7_told_101 : decode cX7_told 101 = .ok (.getfield 20, 3) := by decide +kernel
theorem dX7_told_104 : decode cX7_told 104 = .ok (.iconst 0, 1) := by decide +kernel
theorem dX7_told_105 : decode cX7_told 105 = .ok (.iaload, 1) := by decide +kernel
theorem dX7_told_106 : decode cX7_told 106 = .ok (.isub, 1) := by decide +kernel
theorem dX7_told_107 : decode cX7_told 107 = .ok (.iaload, 1) := by decide +kernel
theorem dX7_told_108 : decode cX7_told 108 = .ok (.ireturn, 1) := by decide +kernel
theorem dX7_best_0 : decode cX7_best 0 = .ok (.aload_n 0, 1) := by decide +kernel
theorem dX7_best_1 : decode cX7_best 1 = .ok (.iload_n 1, 1) := by decide +kernel
theorem dX7_best_2 : decode cX7_best 2 = .ok (.iconst 0, 1) := by decide +kernel
theorem dX7_best_3 : decode cX7_best 3 = .ok (.invokevirtual 199, 3) := by decide +kernel
theorem dX7_best_6 : decode cX7_best 6 = .ok (.ireturn, 1) := by decide +kernel
theorem dX7_fresh_0 : decode cX7_fresh 0 = .ok (.aload_n 0, 1) := by decide +kernel
theorem dX7_fresh_1 : decode cX7_fresh 1 = .ok (.iload_n 1, 1) := by decide +kernel
theorem dX7_fresh_2 : decode cX7_fresh 2 = .ok (.iconst 1, 1) := by decide +kernel
theorem dX7_fresh_3 : decode cX7_fresh 3 = .ok (.invokevirtual 199, 3) := by decide +kernel
theorem dX7_fresh_6 : decode cX7_fresh 6 = .ok (.ireturn, 1) := by decide +kernel
theorem dX7_hired_0 : decode cX7_hired 0 = .ok (.aload_n 0, 1) := by decide +kernel
theorem dX7_hired_1 : decode cX7_hired 1 = .ok (.iload_n 1, 1) := by decide +kernel
theorem dX7_hired_2 : decode cX7_hired 2 = .ok (.invokevirtual 164, 3) := by decide +kernel
theorem dX7_hired_5 : decode cX7_hired 5 = .ok (.ifCond .eq 22, 3) := by decide +kernel
theorem dX7_hired_8 : decode cX7_hired 8 = .ok (.iload_n 2, 1) := by decide +kernel
theorem dX7_hired_9 : decode cX7_hired 9 = .ok (.iconst 0, 1) := by decide +kernel
theorem dX7_hired_10 : decode cX7_hired 10 = .ok (.bipush 99, 2) := by decide +kernel
theorem dX7_hired_12 : decode cX7_hired 12 = .ok (.invokestatic 72, 3) := by decide +kernel
theorem dX7_hired_15 : decode cX7_hired 15 = .ok (.ifCond .eq 12, 3) := by decide +kernel
theorem dX7_hired_18 : decode cX7_hired 18 = .ok (.iload_n 3, 1) := by decide +kernel
theorem dX7_hired_19 : decode cX7_hired 19 = .ok (.iconst 0, 1) := by decide +kernel
theorem dX7_hired_20 : decode cX7_hired 20 = .ok (.iconst 1, 1) := by decide +kernel
theorem dX7_hired_21 : decode cX7_hired 21 = .ok (.invokestatic 72, 3) := by decide +kernel
theorem dX7_hired_24 : decode cX7_hired 24 = .ok (.ifCond .ne 5, 3) := by decide +kernel
theorem dX7_hired_27 : decode cX7_hired 27 = .ok (.iconst (-1), 1) := by decide +kernel
theorem dX7_hired_28 : decode cX7_hired 28 = .ok (.ireturn, 1) := by decide +kernel
theorem dX7_hired_29 : decode cX7_hired 29 = .ok (.iconst 0, 1) := by decide +kernel
theorem dX7_hired_30 : decode cX7_hired 30 = .ok (.istore 4, 2) := by decide +kernel
theorem dX7_hired_32 : decode cX7_hired 32 = .ok (.bipush (-9), 2) := by decide +kernel
theorem dX7_hired_34 : decode cX7_hired 34 = .ok (.istore 5, 2) := by decide +kernel
theorem dX7_hired_36 : decode cX7_hired 36 = .ok (.iconst 0, 1) := by decide +kernel
theorem dX7_hired_37 : decode cX7_hired 37 = .ok (.istore 6, 2) := by decide +kernel
theorem dX7_hired_39 : decode cX7_hired 39 = .ok (.iconst 0, 1) := by decide +kernel
theorem dX7_hired_40 : decode cX7_hired 40 = .ok (.istore 7, 2) := by decide +kernel
theorem dX7_hired_42 : decode cX7_hired 42 = .ok (.iload 7, 2) := by decide +kernel
theorem dX7_hired_44 : decode cX7_hired 44 = .ok (.iconst 1, 1) := by decide +kernel
theorem dX7_hired_45 : decode cX7_hired 45 = .ok (.aload_n 0, 1) := by decide +kernel
theorem dX7_hired_46 : decode cX7_hired 46 = .ok (.getfield 76, 3) := by decide +kernel
theorem dX7_hired_49 : decode cX7_hired 49 = .ok (.ishl, 1) := by decide +kernel
theorem dX7_hired_50 : decode cX7_hired 50 = .ok (.if_icmp .ge 130, 3) := by decide +kernel
theorem dX7_hired_53 : decode cX7_hired 53 = .ok (.aload_n 0, 1) := by decide +kernel
theorem dX7_hired_54 : decode cX7_hired 54 = .ok (.iload 7, 2) := by decide +kernel
theorem dX7_hired_56 : decode cX7_hired 56 = .ok (.invokevirtual 203, 3) := by decide +kernel
theorem dX7_hired_59 : decode cX7_hired 59 = .ok (.istore 8, 2) := by decide +kernel
theorem dX7_hired_61 : decode cX7_hired 61 = .ok (.iload 7, 2) := by decide +kernel
theorem dX7_hired_63 : decode cX7_hired 63 = .ok (.aload_n 0, 1) := by decide +kernel
theorem dX7_hired_64 : decode cX7_hired 64 = .ok (.getfield 20, 3) := by decide +kernel
theorem dX7_hired_67 : decode cX7_hired 67 = .ok (.iconst 0, 1) := by decide +kernel
theorem dX7_hired_68 : decode cX7_hired 68 = .ok (.iaload, 1) := by decide +kernel
theorem dX7_hired_69 : decode cX7_hired 69 = .ok (.ishr, 1) := by decide +kernel
theorem dX7_hired_70 : decode cX7_hired 70 = .ok (.aload_n 0, 1) := by decide +kernel
theorem dX7_hired_71 : decode cX7_hired 71 = .ok (.getfield 20, 3) := by decide +kernel
theorem dX7_hired_74 : decode cX7_hired 74 = .ok (.iconst 0, 1) := by decide +kernel
theorem dX7_hired_75 : decode cX7_hired 75 = .ok (.iaload, 1) := by decide +kernel
theorem dX7_hired_76 : decode cX7_hired 76 = .ok (.ishl, 1) := by decide +kernel
theorem dX7_hired_77 : decode cX7_hired 77 = .ok (.iload 7, 2) := by decide +kernel
theorem dX7_hired_79 : decode cX7_hired 79 = .ok (.if_icmp .ne 95, 3) := by decide +kernel
theorem dX7_hired_82 : decode cX7_hired 82 = .ok (.iload 8, 2) := by decide +kernel
theorem dX7_hired_84 : decode cX7_hired 84 = .ok (.iload_n 2, 1) := by decide +kernel
theorem dX7_hired_85 : decode cX7_hired 85 = .ok (.if_icmp .gt 89, 3) := by decide +kernel
theorem dX7_hired_88 : decode cX7_hired 88 = .ok (.aload_n 0, 1) := by decide +kernel
theorem dX7_hired_89 : decode cX7_hired 89 = .ok (.iload_n 1, 1) := by decide +kernel
theorem dX7_hired_90 : decode cX7_hired 90 = .ok (.iload 7, 2) := by decide +kernel
theorem dX7_hired_92 : decode cX7_hired 92 = .ok (.invokevirtual 206, 3) := by decide +kernel
theorem dX7_hired_95 : decode cX7_hired 95 = .ok (.istore 9, 2) := by decide +kernel
theorem dX7_hired_97 : decode cX7_hired 97 = .ok (.iload 5, 2) := by decide +kernel
theorem dX7_hired_99 : decode cX7_hired 99 = .ok (.bipush (-9), 2) := by decide +kernel
theorem dX7_hired_101 : decode cX7_hired 101 = .ok (.if_icmp .eq 24, 3) := by decide +kernel
theorem dX7_hired_104 : decode cX7_hired 104 = .ok (.iload 9, 2) := by decide +kernel
theorem dX7_hired_106 : decode cX7_hired 106 = .ok (.iload 5, 2) := by decide +kernel
theorem dX7_hired_108 : decode cX7_hired 108 = .ok (.if_icmp .lt 17, 3) := by decide +kernel
theorem dX7_hired_111 : decode cX7_hired 111 = .ok (.iload 9, 2) := by decide +kernel
theorem dX7_hired_113 : decode cX7_hired 113 = .ok (.iload 5, 2) := by decide +kernel
theorem dX7_hired_115 : decode cX7_hired 115 = .ok (.if_icmp .ne 14, 3) := by decide +kernel
theorem dX7_hired_118 : decode cX7_hired 118 = .ok (.iload 8, 2) := by decide +kernel
theorem dX7_hired_120 : decode cX7_hired 120 = .ok (.iload 6, 2) := by decide +kernel
theorem dX7_hired_122 : decode cX7_hired 122 = .ok (.if_icmp .ge 7, 3) := by decide +kernel
theorem dX7_hired_125 : decode cX7_hired 125 = .ok (.iconst 1, 1) := by decide +kernel
theorem dX7_hired_126 : decode cX7_hired 126 = .ok (.goto 4, 3) := by decide +kernel
theorem dX7_hired_129 : decode cX7_hired 129 = .ok (.iconst 0, 1) := by decide +kernel
theorem dX7_hired_130 : decode cX7_hired 130 = .ok (.istore 10, 2) := by decide +kernel
theorem dX7_hired_132 : decode cX7_hired 132 = .ok (.iload 10, 2) := by decide +kernel
theorem dX7_hired_134 : decode cX7_hired 134 = .ok (.ifCond .eq 8, 3) := by decide +kernel
theorem dX7_hired_137 : decode cX7_hired 137 = .ok (.iload 7, 2) := by decide +kernel
theorem dX7_hired_139 : decode cX7_hired 139 = .ok (.goto 5, 3) := by decide +kernel
theorem dX7_hired_142 : decode cX7_hired 142 = .ok (.iload 4, 2) := by decide +kernel
theorem dX7_hired_144 : decode cX7_hired 144 = .ok (.istore 4, 2) := by decide +kernel
theorem dX7_hired_146 : decode cX7_hired 146 = .ok (.iload 10, 2) := by decide +kernel
theorem dX7_hired_148 : decode cX7_hired 148 = .ok (.ifCond .eq 8, 3) := by decide +kernel
theorem dX7_hired_151 : decode cX7_hired 151 = .ok (.iload 9, 2) := by decide +kernel
theorem dX7_hired_153 : decode cX7_hired 153 = .ok (.goto 5, 3) := by decide +kernel
theorem dX7_hired_156 : decode cX7_hired 156 = .ok (.iload 5, 2) := by decide +kernel
theorem dX7_hired_158 : decode cX7_hired 158 = .ok (.istore 5, 2) := by decide +kernel
theorem dX7_hired_160 : decode cX7_hired 160 = .ok (.iload 10, 2) := by decide +kernel
theorem dX7_hired_162 : decode cX7_hired 162 = .ok (.ifCond .eq 8, 3) := by decide +kernel
theorem dX7_hired_165 : decode cX7_hired 165 = .ok (.iload 8, 2) := by decide +kernel
theorem dX7_hired_167 : decode cX7_hired 167 = .ok (.goto 5, 3) := by decide +kernel
theorem dX7_hired_170 : decode cX7_hired 170 = .ok (.iload 6, 2) := by decide +kernel
theorem dX7_hired_172 : decode cX7_hired 172 = .ok (.istore 6, 2) := by decide +kernel
theorem dX7_hired_174 : decode cX7_hired 174 = .ok (.iinc 7 1, 3) := by decide +kernel
theorem dX7_hired_177 : decode cX7_hired 177 = .ok (.goto (-135), 3) := by decide +kernel
theorem dX7_hired_180 : decode cX7_hired 180 = .ok (.iload_n 3, 1) := by decide +kernel
theorem dX7_hired_181 : decode cX7_hired 181 = .ok (.ifCond .ne 8, 3) := by decide +kernel
theorem dX7_hired_184 : decode cX7_hired 184 = .ok (.iload 4, 2) := by decide +kernel
theorem dX7_hired_186 : decode cX7_hired 186 = .ok (.goto 5, 3) := by decide +kernel
theorem dX7_hired_189 : decode cX7_hired 189 = .ok (.iload 5, 2) := by decide +kernel
theorem dX7_hired_191 : decode cX7_hired 191 = .ok (.ireturn, 1) := by decide +kernel
theorem dX7_penceOf_0 : decode cX7_penceOf 0 = .ok (.iconst 0, 1) := by decide +kernel
theorem dX7_penceOf_1 : decode cX7_penceOf 1 = .ok (.istore_n 2, 1) := by decide +kernel
theorem dX7_penceOf_2 : decode cX7_penceOf 2 = .ok (.iconst 0, 1) := by decide +kernel
theorem dX7_penceOf_3 : decode cX7_penceOf 3 = .ok (.istore_n 3, 1) := by decide +kernel
theorem dX7_penceOf_4 : decode cX7_penceOf 4 = .ok (.iload_n 3, 1) := by decide +kernel
theorem dX7_penceOf_5 : decode cX7_penceOf 5 = .ok (.aload_n 0, 1) := by decide +kernel
theorem dX7_penceOf_6 : decode cX7_penceOf 6 = .ok (.getfield 76, 3) := by decide +kernel
theorem dX7_penceOf_9 : decode cX7_penceOf 9 = .ok (.if_icmp .ge 32, 3) := by decide +kernel
theorem dX7_penceOf_12 : decode cX7_penceOf 12 = .ok (.iload_n 2, 1) := by decide +kernel
theorem dX7_penceOf_13 : decode cX7_penceOf 13 = .ok (.iload_n 1, 1) := by decide +kernel
theorem dX7_penceOf_14 : decode cX7_penceOf 14 = .ok (.iload_n 3, 1) := by decide +kernel
theorem dX7_penceOf_15 : decode cX7_penceOf 15 = .ok (.invokestatic 209, 3) := by decide +kernel
theorem dX7_penceOf_18 : decode cX7_penceOf 18 = .ok (.ifCond .eq 14, 3) := by decide +kernel
theorem dX7_penceOf_21 : decode cX7_penceOf 21 = .ok (.aload_n 0, 1) := by decide +kernel
theorem dX7_penceOf_22 : decode cX7_penceOf 22 = .ok (.getfield 13, 3) := by decide +kernel
theorem dX7_penceOf_25 : decode cX7_penceOf 25 = .ok (.iconst 4, 1) := by decide +kernel
theorem dX7_penceOf_26 : decode cX7_penceOf 26 = .ok (.iload_n 3, 1) := by decide +kernel
theorem dX7_penceOf_27 : decode cX7_penceOf 27 = .ok (.imul, 1) := by decide +kernel
theorem dX7_penceOf_28 : decode cX7_penceOf 28 = .ok (.iaload, 1) := by decide +kernel
theorem dX7_penceOf_29 : decode cX7_penceOf 29 = .ok (.goto 4, 3) := by decide +kernel
theorem dX7_penceOf_32 : decode cX7_penceOf 32 = .ok (.iconst 0, 1) := by decide +kernel
theorem dX7_penceOf_33 : decode cX7_penceOf 33 = .ok (.iadd, 1) := by decide +kernel
theorem dX7_penceOf_34 : decode cX7_penceOf 34 = .ok (.istore_n 2, 1) := by decide +kernel
theorem dX7_penceOf_35 : decode cX7_penceOf 35 = .ok (.iinc 3 1, 3) := by decide +kernel
theorem dX7_penceOf_38 : decode cX7_penceOf 38 = .ok (.goto (-34), 3) := by decide +kernel
theorem dX7_penceOf_41 : decode cX7_penceOf 41 = .ok (.iload_n 2, 1) := by decide +kernel
theorem dX7_penceOf_42 : decode cX7_penceOf 42 = .ok (.ireturn, 1) := by decide +kernel
theorem dX7_minutesBy_0 : decode cX7_minutesBy 0 = .ok (.aload_n 0, 1) := by decide +kernel
theorem dX7_minutesBy_1 : decode cX7_minutesBy 1 = .ok (.invokevirtual 155, 3) := by decide +kernel
theorem dX7_minutesBy_4 : decode cX7_minutesBy 4 = .ok (.iconst 0, 1) := by decide +kernel
theorem dX7_minutesBy_5 : decode cX7_minutesBy 5 = .ok (.istore_n 3, 1) := by decide +kernel
theorem dX7_minutesBy_6 : decode cX7_minutesBy 6 = .ok (.aload_n 0, 1) := by decide +kernel
theorem dX7_minutesBy_7 : decode cX7_minutesBy 7 = .ok (.getfield 20, 3) := by decide +kernel
theorem dX7_minutesBy_10 : decode cX7_minutesBy 10 = .ok (.iconst 0, 1) := by decide +kernel
theorem dX7_minutesBy_11 : decode cX7_minutesBy 11 = .ok (.iaload, 1) := by decide +kernel
theorem dX7_minutesBy_12 : decode cX7_minutesBy 12 = .ok (.istore 4, 2) := by decide +kernel
theorem dX7_minutesBy_14 : decode cX7_minutesBy 14 = .ok (.iload 4, 2) := by decide +kernel
theorem dX7_minutesBy_16 : decode cX7_minutesBy 16 = .ok (.aload_n 0, 1) := by decide +kernel
theorem dX7_minutesBy_17 : decode cX7_minutesBy 17 = .ok (.getfield 76, 3) := by decide +kernel
theorem dX7_minutesBy_20 : decode cX7_minutesBy 20 = .ok (.if_icmp .ge 84, 3) := by decide +kernel
theorem dX7_minutesBy_23 : decode cX7_minutesBy 23 = .ok (.iload 4, 2) := by decide +kernel
theorem dX7_minutesBy_25 : decode cX7_minutesBy 25 = .ok (.aload_n 0, 1) := by decide +kernel
theorem dX7_minutesBy_26 : decode cX7_minutesBy 26 = .ok (.getfield 20, 3) := by decide +kernel
theorem dX7_minutesBy_29 : decode cX7_minutesBy 29 = .ok (.iconst 0, 1) := by decide +kernel
theorem dX7_minutesBy_30 : decode cX7_minutesBy 30 = .ok (.iaload, 1) := by decide +kernel
theorem dX7_minutesBy_31 : decode cX7_minutesBy 31 = .ok (.isub, 1) := by decide +kernel
theorem dX7_minutesBy_32 : decode cX7_minutesBy 32 = .ok (.istore 5, 2) := by decide +kernel
theorem dX7_minutesBy_34 : decode cX7_minutesBy 34 = .ok (.iload_n 3, 1) := by decide +kernel
theorem dX7_minutesBy_35 : decode cX7_minutesBy 35 = .ok (.iload_n 2, 1) := by decide +kernel
theorem dX7_minutesBy_36 : decode cX7_minutesBy 36 = .ok (.iload 4, 2) := by decide +kernel
theorem dX7_minutesBy_38 : decode cX7_minutesBy 38 = .ok (.invokestatic 209, 3) := by decide +kernel
theorem dX7_minutesBy_41 : decode cX7_minutesBy 41 = .ok (.ifCond .eq 17, 3) := by decide +kernel
theorem dX7_minutesBy_44 : decode cX7_minutesBy 44 = .ok (.iconst 3, 1) := by decide +kernel
theorem dX7_minutesBy_45 : decode cX7_minutesBy 45 = .ok (.aload_n 0, 1) := by decide +kernel
theorem dX7_minutesBy_46 : decode cX7_minutesBy 46 = .ok (.getfield 13, 3) := by decide +kernel
theorem dX7_minutesBy_49 : decode cX7_minutesBy 49 = .ok (.iconst 4, 1) := by decide +kernel
theorem dX7_minutesBy_50 : decode cX7_minutesBy 50 = .ok (.iload 4, 2) := by decide +kernel
theorem dX7_minutesBy_52 : decode cX7_minutesBy 52 = .ok (.imul, 1) := by decide +kernel
theorem dX7_minutesBy_53 : decode cX7_minutesBy 53 = .ok (.iaload, 1) := by decide +kernel
theorem dX7_minutesBy_54 : decode cX7_minutesBy 54 = .ok (.imul, 1) := by decide +kernel
theorem dX7_minutesBy_55 : decode cX7_minutesBy 55 = .ok (.goto 12, 3) := by decide +kernel
theorem dX7_minutesBy_58 : decode cX7_minutesBy 58 = .ok (.aload_n 0, 1) := by decide +kernel
theorem dX7_minutesBy_59 : decode cX7_minutesBy 59 = .ok (.iload 4, 2) := by decide +kernel
theorem dX7_minutesBy_61 : decode cX7_minutesBy 61 = .ok (.iload_n 1, 1) := by decide +kernel
theorem dX7_minutesBy_62 : decode cX7_minutesBy 62 = .ok (.iload 5, 2) := by decide +kernel
theorem dX7_minutesBy_64 : decode cX7_minutesBy 64 = .ok (.invokevirtual 147, 3) := by decide +kernel
theorem dX7_minutesBy_67 : decode cX7_minutesBy 67 = .ok (.iadd, 1) := by decide +kernel
theorem dX7_minutesBy_68 : decode cX7_minutesBy 68 = .ok (.istore_n 3, 1) := by decide +kernel
theorem dX7_minutesBy_69 : decode cX7_minutesBy 69 = .ok (.aload_n 0, 1) := by decide +kernel
theorem dX7_minutesBy_70 : decode cX7_minutesBy 70 = .ok (.iload 5, 2) := by decide +kernel
theorem dX7_minutesBy_72 : decode cX7_minutesBy 72 = .ok (.iload_n 2, 1) := by decide +kernel
theorem dX7_minutesBy_73 : decode cX7_minutesBy 73 = .ok (.iload 4, 2) := by decide +kernel
theorem dX7_minutesBy_75 : decode cX7_minutesBy 75 = .ok (.invokestatic 209, 3) := by decide +kernel
theorem dX7_minutesBy_78 : decode cX7_minutesBy 78 = .ok (.ifCond .eq 7, 3) := by decide +kernel
theorem dX7_minutesBy_81 : decode cX7_minutesBy 81 = .ok (.iconst (-1), 1) := by decide +kernel
theorem dX7_minutesBy_82 : decode cX7_minutesBy 82 = .ok (.goto 4, 3) := by decide +kernel
theorem dX7_minutesBy_85 : decode cX7_minutesBy 85 = .ok (.iload_n 1, 1) := by decide +kernel
theorem dX7_minutesBy_86 : decode cX7_minutesBy 86 = .ok (.aload_n 0, 1) := by decide +kernel
theorem dX7_minutesBy_87 : decode cX7_minutesBy 87 = .ok (.getfield 13, 3) := by decide +kernel
theorem dX7_minutesBy_90 : decode cX7_minutesBy 90 = .ok (.iconst 4, 1) := by decide +kernel
theorem dX7_minutesBy_91 : decode cX7_minutesBy 91 = .ok (.iload 4, 2) := by decide +kernel
theorem dX7_minutesBy_93 : decode cX7_minutesBy 93 = .ok (.imul, 1) := by decide +kernel
theorem dX7_minutesBy_94 : decode cX7_minutesBy 94 = .ok (.iaload, 1) := by decide +kernel
theorem dX7_minutesBy_95 : decode cX7_minutesBy 95 = .ok (.invokevirtual 151, 3) := by decide +kernel
theorem dX7_minutesBy_98 : decode cX7_minutesBy 98 = .ok (.iinc 4 1, 3) := by decide +kernel
theorem dX7_minutesBy_101 : decode cX7_minutesBy 101 = .ok (.goto (-87), 3) := by decide +kernel
theorem dX7_minutesBy_104 : decode cX7_minutesBy 104 = .ok (.iload_n 3, 1) := by decide +kernel
theorem dX7_minutesBy_105 : decode cX7_minutesBy 105 = .ok (.ireturn, 1) := by decide +kernel
theorem dX7_goIn_0 : decode cX7_goIn 0 = .ok (.aload_n 0, 1) := by decide +kernel
theorem dX7_goIn_1 : decode cX7_goIn 1 = .ok (.iload_n 1, 1) := by decide +kernel
theorem dX7_goIn_2 : decode cX7_goIn 2 = .ok (.invokevirtual 164, 3) := by decide +kernel
theorem dX7_goIn_5 : decode cX7_goIn 5 = .ok (.ifCond .ne 5, 3) := by decide +kernel
theorem dX7_goIn_8 : decode cX7_goIn 8 = .ok (.iconst (-1), 1) := by decide +kernel
theorem dX7_goIn_9 : decode cX7_goIn 9 = .ok (.ireturn, 1) := by decide +kernel
theorem dX7_goIn_10 : decode cX7_goIn 10 = .ok (.aload_n 0, 1) := by decide +kernel
theorem dX7_goIn_11 : decode cX7_goIn 11 = .ok (.iload_n 1, 1) := by decide +kernel
theorem dX7_goIn_12 : decode cX7_goIn 12 = .ok (.invokevirtual 212, 3) := by decide +kernel
theorem dX7_goIn_15 : decode cX7_goIn 15 = .ok (.istore_n 2, 1) := by decide +kernel
theorem dX7_goIn_16 : decode cX7_goIn 16 = .ok (.iconst 0, 1) := by decide +kernel
theorem dX7_goIn_17 : decode cX7_goIn 17 = .ok (.istore_n 3, 1) := by decide +kernel
theorem dX7_goIn_18 : decode cX7_goIn 18 = .ok (.iload_n 3, 1) := by decide +kernel
theorem dX7_goIn_19 : decode cX7_goIn 19 = .ok (.sipush 200, 3) := by decide +kernel
theorem dX7_goIn_22 : decode cX7_goIn 22 = .ok (.if_icmp .gt 53, 3) := by decide +kernel
theorem dX7_goIn_25 : decode cX7_goIn 25 = .ok (.aload_n 0, 1) := by decide +kernel
theorem dX7_goIn_26 : decode cX7_goIn 26 = .ok (.getfield 20, 3) := by decide +kernel
theorem dX7_goIn_29 : decode cX7_goIn 29 = .ok (.iconst 1, 1) := by decide +kernel
theorem dX7_goIn_30 : decode cX7_goIn 30 = .ok (.iaload, 1) := by decide +kernel
theorem dX7_goIn_31 : decode cX7_goIn 31 = .ok (.iload_n 3, 1) := by decide +kernel
theorem dX7_goIn_32 : decode cX7_goIn 32 = .ok (.iadd, 1) := by decide +kernel
theorem dX7_goIn_33 : decode cX7_goIn 33 = .ok (.istore 4, 2) := by decide +kernel
theorem dX7_goIn_35 : decode cX7_goIn 35 = .ok (.aload_n 0, 1) := by decide +kernel
theorem dX7_goIn_36 : decode cX7_goIn 36 = .ok (.getfield 134, 3) := by decide +kernel
theorem dX7_goIn_39 : decode cX7_goIn 39 = .ok (.ifCond .eq 28, 3) := by decide +kernel
theorem dX7_goIn_42 : decode cX7_goIn 42 = .ok (.aload_n 0, 1) := by decide +kernel
theorem dX7_goIn_43 : decode cX7_goIn 43 = .ok (.iload 4, 2) := by decide +kernel
theorem dX7_goIn_45 : decode cX7_goIn 45 = .ok (.invokevirtual 173, 3) := by decide +kernel
theorem dX7_goIn_48 : decode cX7_goIn 48 = .ok (.ifCond .eq 21, 3) := by decide +kernel
theorem dX7_goIn_51 : decode cX7_goIn 51 = .ok (.iload 4, 2) := by decide +kernel
theorem dX7_goIn_53 : decode cX7_goIn 53 = .ok (.aload_n 0, 1) := by decide +kernel
theorem dX7_goIn_54 : decode cX7_goIn 54 = .ok (.getfield 134, 3) := by decide +kernel
theorem dX7_goIn_57 : decode cX7_goIn 57 = .ok (.irem, 1) := by decide +kernel
theorem dX7_goIn_58 : decode cX7_goIn 58 = .ok (.iload_n 2, 1) := by decide +kernel
theorem dX7_goIn_59 : decode cX7_goIn 59 = .ok (.iadd, 1) := by decide +kernel
theorem dX7_goIn_60 : decode cX7_goIn 60 = .ok (.aload_n 0, 1) := by decide +kernel
theorem dX7_goIn_61 : decode cX7_goIn 61 = .ok (.getfield 134, 3) := by decide +kernel
theorem dX7_goIn_64 : decode cX7_goIn 64 = .ok (.if_icmp .gt 5, 3) := by decide +kernel
theorem dX7_goIn_67 : decode cX7_goIn 67 = .ok (.iload_n 3, 1) := by decide +kernel
theorem dX7_goIn_68 : decode cX7_goIn 68 = .ok (.ireturn, 1) := by decide +kernel
theorem dX7_goIn_69 : decode cX7_goIn 69 = .ok (.iinc 3 1, 3) := by decide +kernel
theorem dX7_goIn_72 : decode cX7_goIn 72 = .ok (.goto (-54), 3) := by decide +kernel
theorem dX7_goIn_75 : decode cX7_goIn 75 = .ok (.bipush (-9), 2) := by decide +kernel
theorem dX7_goIn_77 : decode cX7_goIn 77 = .ok (.ireturn, 1) := by decide +kernel
theorem dX7_meets_0 : decode cX7_meets 0 = .ok (.aload_n 0, 1) := by decide +kernel
theorem dX7_meets_1 : decode cX7_meets 1 = .ok (.iload_n 1, 1) := by decide +kernel
theorem dX7_meets_2 : decode cX7_meets 2 = .ok (.invokevirtual 164, 3) := by decide +kernel
theorem dX7_meets_5 : decode cX7_meets 5 = .ok (.ifCond .eq 34, 3) := by decide +kernel
theorem dX7_meets_8 : decode cX7_meets 8 = .ok (.iload_n 2, 1) := by decide +kernel
theorem dX7_meets_9 : decode cX7_meets 9 = .ok (.iconst 0, 1) := by decide +kernel
theorem dX7_meets_10 : decode cX7_meets 10 = .ok (.sipush 200, 3) := by decide +kernel
theorem dX7_meets_13 : decode cX7_meets 13 = .ok (.invokestatic 72, 3) := by decide +kernel
theorem dX7_meets_16 : decode cX7_meets 16 = .ok (.ifCond .eq 23, 3) := by decide +kernel
theorem dX7_meets_19 : decode cX7_meets 19 = .ok (.iload_n 3, 1) := by decide +kernel
theorem dX7_meets_20 : decode cX7_meets 20 = .ok (.iconst 1, 1) := by decide +kernel
theorem dX7_meets_21 : decode cX7_meets 21 = .ok (.bipush 9, 2) := by decide +kernel
theorem dX7_meets_23 : decode cX7_meets 23 = .ok (.invokestatic 72, 3) := by decide +kernel
theorem dX7_meets_26 : decode cX7_meets 26 = .ok (.ifCond .eq 13, 3) := by decide +kernel
theorem dX7_meets_29 : decode cX7_meets 29 = .ok (.iload 4, 2) := by decide +kernel
theorem dX7_meets_31 : decode cX7_meets 31 = .ok (.iconst 0, 1) := by decide +kernel
theorem dX7_meets_32 : decode cX7_meets 32 = .ok (.iconst 1, 1) := by decide +kernel
theorem dX7_meets_33 : decode cX7_meets 33 = .ok (.invokestatic 72, 3) := by decide +kernel
theorem dX7_meets_36 : decode cX7_meets 36 = .ok (.ifCond .ne 5, 3) := by decide +kernel
theorem dX7_meets_39 : decode cX7_meets 39 = .ok (.iconst (-1), 1) := by decide +kernel
theorem dX7_meets_40 : decode cX7_meets 40 = .ok (.ireturn, 1) := by decide +kernel
theorem dX7_meets_41 : decode cX7_meets 41 = .ok (.aload_n 0, 1) := by decide +kernel
theorem dX7_meets_42 : decode cX7_meets 42 = .ok (.iload_n 1, 1) := by decide +kernel
theorem dX7_meets_43 : decode cX7_meets 43 = .ok (.invokevirtual 212, 3) := by decide +kernel
theorem dX7_meets_46 : decode cX7_meets 46 = .ok (.pop, 1) := by decide +kernel
theorem dX7_meets_47 : decode cX7_meets 47 = .ok (.iconst 0, 1) := by decide +kernel
theorem dX7_meets_48 : decode cX7_meets 48 = .ok (.istore 5, 2) := by decide +kernel
theorem dX7_meets_50 : decode cX7_meets 50 = .ok (.aload_n 0, 1) := by decide +kernel
theorem dX7_meets_51 : decode cX7_meets 51 = .ok (.getfield 20, 3) := by decide +kernel
theorem dX7_meets_54 : decode cX7_meets 54 = .ok (.iconst 0, 1) := by decide +kernel
theorem dX7_meets_55 : decode cX7_meets 55 = .ok (.iaload, 1) := by decide +kernel
theorem dX7_meets_56 : decode cX7_meets 56 = .ok (.istore 6, 2) := by decide +kernel
theorem dX7_meets_58 : decode cX7_meets 58 = .ok (.iload 6, 2) := by decide +kernel
theorem dX7_meets_60 : decode cX7_meets 60 = .ok (.aload_n 0, 1) := by decide +kernel
theorem dX7_meets_61 : decode cX7_meets 61 = .ok (.getfield 76, 3) := by decide +kernel
theorem dX7_meets_64 : decode cX7_meets 64 = .ok (.if_icmp .ge 153, 3) := by decide +kernel
theorem dX7_meets_67 : decode cX7_meets 67 = .ok (.iconst 0, 1) := by decide +kernel
theorem dX7_meets_68 : decode cX7_meets 68 = .ok (.istore 7, 2) := by decide +kernel
theorem dX7_meets_70 : decode cX7_meets 70 = .ok (.iload 6, 2) := by decide +kernel
theorem dX7_meets_72 : decode cX7_meets 72 = .ok (.iconst 1, 1) := by decide +kernel
theorem dX7_meets_73 : decode cX7_meets 73 = .ok (.iadd, 1) := by decide +kernel
theorem dX7_meets_74 : decode cX7_meets 74 = .ok (.istore 8, 2) := by decide +kernel
theorem dX7_meets_76 : decode cX7_meets 76 = .ok (.iload 8, 2) := by decide +kernel
theorem dX7_meets_78 : decode cX7_meets 78 = .ok (.aload_n 0, 1) := by decide +kernel
theorem dX7_meets_79 : decode cX7_meets 79 = .ok (.getfield 76, 3) := by decide +kernel
theorem dX7_meets_82 : decode cX7_meets 82 = .ok (.if_icmp .ge 23, 3) := by decide +kernel
theorem dX7_meets_85 : decode cX7_meets 85 = .ok (.iload 7, 2) := by decide +kernel
theorem dX7_meets_87 : decode cX7_meets 87 = .ok (.aload_n 0, 1) := by decide +kernel
theorem dX7_meets_88 : decode cX7_meets 88 = .ok (.getfield 13, 3) := by decide +kernel
theorem dX7_meets_91 : decode cX7_meets 91 = .ok (.iconst 4, 1) := by decide +kernel
theorem dX7_meets_92 : decode cX7_meets 92 = .ok (.iload 8, 2) := by decide +kernel
theorem dX7_meets_94 : decode cX7_meets 94 = .ok (.imul, 1) := by decide +kernel
theorem dX7_meets_95 : decode cX7_meets 95 = .ok (.iaload, 1) := by decide +kernel
theorem dX7_meets_96 : decode cX7_meets 96 = .ok (.iadd, 1) := by decide +kernel
theorem dX7_meets_97 : decode cX7_meets 97 = .ok (.istore 7, 2) := by decide +kernel
theorem dX7_meets_99 : decode cX7_meets 99 = .ok (.iinc 8 1, 3) := by decide +kernel
theorem dX7_meets_102 : decode cX7_meets 102 = .ok (.goto (-26), 3) := by decide +kernel
theorem dX7_meets_105 : decode cX7_meets 105 = .ok (.iload 6, 2) := by decide +kernel
theorem dX7_meets_107 : decode cX7_meets 107 = .ok (.aload_n 0, 1) := by decide +kernel
theorem dX7_meets_108 : decode cX7_meets 108 = .ok (.getfield 20, 3) := by decide +kernel
theorem dX7_meets_111 : decode cX7_meets 111 = .ok (.iconst 0, 1) := by decide +kernel
theorem dX7_meets_112 : decode cX7_meets 112 = .ok (.iaload, 1) := by decide +kernel
theorem dX7_meets_113 : decode cX7_meets 113 = .ok (.isub, 1) := by decide +kernel
theorem dX7_meets_114 : decode cX7_meets 114 = .ok (.istore 8, 2) := by decide +kernel
theorem dX7_meets_116 : decode cX7_meets 116 = .ok (.iload_n 2, 1) := by decide +kernel
theorem dX7_meets_117 : decode cX7_meets 117 = .ok (.iload_n 3, 1) := by decide +kernel
theorem dX7_meets_118 : decode cX7_meets 118 = .ok (.iload 7, 2) := by decide +kernel
theorem dX7_meets_120 : decode cX7_meets 120 = .ok (.imul, 1) := by decide +kernel
theorem dX7_meets_121 : decode cX7_meets 121 = .ok (.iadd, 1) := by decide +kernel
theorem dX7_meets_122 : decode cX7_meets 122 = .ok (.istore 9, 2) := by decide +kernel
theorem dX7_meets_124 : decode cX7_meets 124 = .ok (.aload_n 0, 1) := by decide +kernel
theorem dX7_meets_125 : decode cX7_meets 125 = .ok (.getfield 51, 3) := by decide +kernel
theorem dX7_meets_128 : decode cX7_meets 128 = .ok (.iload 8, 2) := by decide +kernel
theorem dX7_meets_130 : decode cX7_meets 130 = .ok (.iaload, 1) := by decide +kernel
theorem dX7_meets_131 : decode cX7_meets 131 = .ok (.iload 9, 2) := by decide +kernel
theorem dX7_meets_133 : decode cX7_meets 133 = .ok (.iload_n 3, 1) := by decide +kernel
theorem dX7_meets_134 : decode cX7_meets 134 = .ok (.aload_n 0, 1) := by decide +kernel
theorem dX7_meets_135 : decode cX7_meets 135 = .ok (.getfield 13, 3) := by decide +kernel
theorem dX7_meets_138 : decode cX7_meets 138 = .ok (.iconst 4, 1) := by decide +kernel
theorem dX7_meets_139 : decode cX7_meets 139 = .ok (.iload 6, 2) := by decide +kernel
theorem dX7_meets_141 : decode cX7_meets 141 = .ok (.imul, 1) := by decide +kernel
theorem dX7_meets_142 : decode cX7_meets 142 = .ok (.iaload, 1) := by decide +kernel
theorem dX7_meets_143 : decode cX7_meets 143 = .ok (.imul, 1) := by decide +kernel
theorem dX7_meets_144 : decode cX7_meets 144 = .ok (.iadd, 1) := by decide +kernel
theorem dX7_meets_145 : decode cX7_meets 145 = .ok (.if_icmp .gt 21, 3) := by decide +kernel
theorem dX7_meets_148 : decode cX7_meets 148 = .ok (.iload 9, 2) := by decide +kernel
theorem dX7_meets_150 : decode cX7_meets 150 = .ok (.aload_n 0, 1) := by decide +kernel
theorem dX7_meets_151 : decode cX7_meets 151 = .ok (.getfield 51, 3) := by decide +kernel
theorem dX7_meets_154 : decode cX7_meets 154 = .ok (.iload 8, 2) := by decide +kernel
theorem dX7_meets_156 : decode cX7_meets 156 = .ok (.iconst 1, 1) := by decide +kernel
theorem dX7_meets_157 : decode cX7_meets 157 = .ok (.iadd, 1) := by decide +kernel
theorem dX7_meets_158 : decode cX7_meets 158 = .ok (.iaload, 1) := by decide +kernel
theorem dX7_meets_159 : decode cX7_meets 159 = .ok (.if_icmp .gt 7, 3) := by decide +kernel
theorem dX7_meets_162 : decode cX7_meets 162 = .ok (.iconst 1, 1) := by decide +kernel
theorem dX7_meets_163 : decode cX7_meets 163 = .ok (.goto 4, 3) := by decide +kernel
theorem dX7_meets_166 : decode cX7_meets 166 = .ok (.iconst 0, 1) := by decide +kernel
theorem dX7_meets_167 : decode cX7_meets 167 = .ok (.istore 10, 2) := by decide +kernel
theorem dX7_meets_169 : decode cX7_meets 169 = .ok (.iload 10, 2) := by decide +kernel
theorem dX7_meets_171 : decode cX7_meets 171 = .ok (.ifCond .eq 26, 3) := by decide +kernel
theorem dX7_meets_174 : decode cX7_meets 174 = .ok (.iload 4, 2) := by decide +kernel
theorem dX7_meets_176 : decode cX7_meets 176 = .ok (.ifCond .ne 8, 3) := by decide +kernel
theorem dX7_meets_179 : decode cX7_meets 179 = .ok (.iload 6, 2) := by decide +kernel
theorem dX7_meets_181 : decode cX7_meets 181 = .ok (.goto 15, 3) := by decide +kernel
theorem dX7_meets_184 : decode cX7_meets 184 = .ok (.iload 5, 2) := by decide +kernel
theorem dX7_meets_186 : decode cX7_meets 186 = .ok (.iload 7, 2) := by decide +kernel
theorem dX7_meets_188 : decode cX7_meets 188 = .ok (.if_icmp .ge 7, 3) := by decide +kernel
theorem dX7_meets_191 : decode cX7_meets 191 = .ok (.iconst 0, 1) := by decide +kernel
theorem dX7_meets_192 : decode cX7_meets 192 = .ok (.goto 4, 3) := by decide +kernel
theorem dX7_meets_195 : decode cX7_meets 195 = .ok (.iconst 1, 1) := by decide +kernel
theorem dX7_meets_196 : decode cX7_meets 196 = .ok (.ireturn, 1) := by decide +kernel
theorem dX7_meets_197 : decode cX7_meets 197 = .ok (.iload 5, 2) := by decide +kernel
theorem dX7_meets_199 : decode cX7_meets 199 = .ok (.aload_n 0, 1) := by decide +kernel
theorem dX7_meets_200 : decode cX7_meets 200 = .ok (.getfield 13, 3) := by decide +kernel
theorem dX7_meets_203 : decode cX7_meets 203 = .ok (.iconst 4, 1) := by decide +kernel
theorem dX7_meets_204 : decode cX7_meets 204 = .ok (.iload 6, 2) := by decide +kernel
theorem dX7_meets_206 : decode cX7_meets 206 = .ok (.imul, 1) := by decide +kernel
theorem dX7_meets_207 : decode cX7_meets 207 = .ok (.iaload, 1) := by decide +kernel
theorem dX7_meets_208 : decode cX7_meets 208 = .ok (.iadd, 1) := by decide +kernel
theorem dX7_meets_209 : decode cX7_meets 209 = .ok (.istore 5, 2) := by decide +kernel
theorem dX7_meets_211 : decode cX7_meets 211 = .ok (.iinc 6 1, 3) := by decide +kernel
theorem dX7_meets_214 : decode cX7_meets 214 = .ok (.goto (-156), 3) := by decide +kernel
theorem dX7_meets_217 : decode cX7_meets 217 = .ok (.bipush (-9), 2) := by decide +kernel
theorem dX7_meets_219 : decode cX7_meets 219 = .ok (.ireturn, 1) := by decide +kernel
theorem dX7_odds_0 : decode cX7_odds 0 = .ok (.aload_n 0, 1) := by decide +kernel
theorem dX7_odds_1 : decode cX7_odds 1 = .ok (.iload_n 1, 1) := by decide +kernel
theorem dX7_odds_2 : decode cX7_odds 2 = .ok (.invokevirtual 164, 3) := by decide +kernel
theorem dX7_odds_5 : decode cX7_odds 5 = .ok (.ifCond .eq 34, 3) := by decide +kernel
theorem dX7_odds_8 : decode cX7_odds 8 = .ok (.iload_n 2, 1) := by decide +kernel
theorem dX7_odds_9 : decode cX7_odds 9 = .ok (.iconst 0, 1) := by decide +kernel
theorem dX7_odds_10 : decode cX7_odds 10 = .ok (.bipush 10, 2) := by decide +kernel
theorem dX7_odds_12 : decode cX7_odds 12 = .ok (.invokestatic 72, 3) := by decide +kernel
theorem dX7_odds_15 : decode cX7_odds 15 = .ok (.ifCond .eq 24, 3) := by decide +kernel
theorem dX7_odds_18 : decode cX7_odds 18 = .ok (.iload_n 3, 1) := by decide +kernel
theorem dX7_odds_19 : decode cX7_odds 19 = .ok (.iconst 0, 1) := by decide +kernel
theorem dX7_odds_20 : decode cX7_odds 20 = .ok (.sipush 9999, 3) := by decide +kernel
theorem dX7_odds_23 : decode cX7_odds 23 = .ok (.invokestatic 72, 3) := by decide +kernel
theorem dX7_odds_26 : decode cX7_odds 26 = .ok (.ifCond .eq 13, 3) := by decide +kernel
theorem dX7_odds_29 : decode cX7_odds 29 = .ok (.iload 4, 2) := by decide +kernel
theorem dX7_odds_31 : decode cX7_odds 31 = .ok (.iconst 0, 1) := by decide +kernel
theorem dX7_odds_32 : decode cX7_odds 32 = .ok (.iconst 1, 1) := by decide +kernel
theorem dX7_odds_33 : decode cX7_odds 33 = .ok (.invokestatic 72, 3) := by decide +kernel
theorem dX7_odds_36 : decode cX7_odds 36 = .ok (.ifCond .ne 5, 3) := by decide +kernel
theorem dX7_odds_39 : decode cX7_odds 39 = .ok (.iconst (-1), 1) := by decide +kernel
theorem dX7_odds_40 : decode cX7_odds 40 = .ok (.ireturn, 1) := by decide +kernel
theorem dX7_odds_41 : decode cX7_odds 41 = .ok (.aload_n 0, 1) := by decide +kernel
theorem dX7_odds_42 : decode cX7_odds 42 = .ok (.iload_n 1, 1) := by decide +kernel
theorem dX7_odds_43 : decode cX7_odds 43 = .ok (.invokevirtual 212, 3) := by decide +kernel
theorem dX7_odds_46 : decode cX7_odds 46 = .ok (.istore 5, 2) := by decide +kernel
theorem dX7_odds_48 : decode cX7_odds 48 = .ok (.iconst 0, 1) := by decide +kernel
theorem dX7_odds_49 : decode cX7_odds 49 = .ok (.istore 6, 2) := by decide +kernel
theorem dX7_odds_51 : decode cX7_odds 51 = .ok (.aload_n 0, 1) := by decide +kernel
theorem dX7_odds_52 : decode cX7_odds 52 = .ok (.getfield 20, 3) := by decide +kernel
theorem dX7_odds_55 : decode cX7_odds 55 = .ok (.iconst 0, 1) := by decide +kernel
theorem dX7_odds_56 : decode cX7_odds 56 = .ok (.iaload, 1) := by decide +kernel
theorem dX7_odds_57 : decode cX7_odds 57 = .ok (.istore 7, 2) := by decide +kernel
theorem dX7_odds_59 : decode cX7_odds 59 = .ok (.iload 7, 2) := by decide +kernel
theorem dX7_odds_61 : decode cX7_odds 61 = .ok (.aload_n 0, 1) := by decide +kernel
theorem dX7_odds_62 : decode cX7_odds 62 = .ok (.getfield 76, 3) := by decide +kernel
theorem dX7_odds_65 : decode cX7_odds 65 = .ok (.if_icmp .ge 25, 3) := by decide +kernel
theorem dX7_odds_68 : decode cX7_odds 68 = .ok (.iload 6, 2) := by decide +kernel
theorem dX7_odds_70 : decode cX7_odds 70 = .ok (.aload_n 0, 1) := by decide +kernel
theorem dX7_odds_71 : decode cX7_odds 71 = .ok (.getfield 13, 3) := by decide +kernel
theorem dX7_odds_74 : decode cX7_odds 74 = .ok (.iconst 4, 1) := by decide +kernel
theorem dX7_odds_75 : decode cX7_odds 75 = .ok (.iload 7, 2) := by decide +kernel
theorem dX7_odds_77 : decode cX7_odds 77 = .ok (.imul, 1) := by decide +kernel
theorem dX7_odds_78 : decode cX7_odds 78 = .ok (.iconst 2, 1) := by decide +kernel
theorem dX7_odds_79 : decode cX7_odds 79 = .ok (.iadd, 1) := by decide +kernel
theorem dX7_odds_80 : decode cX7_odds 80 = .ok (.iaload, 1) := by decide +kernel
theorem dX7_odds_81 : decode cX7_odds 81 = .ok (.iadd, 1) := by decide +kernel
theorem dX7_odds_82 : decode cX7_odds 82 = .ok (.istore 6, 2) := by decide +kernel
theorem dX7_odds_84 : decode cX7_odds 84 = .ok (.iinc 7 1, 3) := by decide +kernel
theorem dX7_odds_87 : decode cX7_odds 87 = .ok (.goto (-28), 3) := by decide +kernel
theorem dX7_odds_90 : decode cX7_odds 90 = .ok (.iconst 0, 1) := by decide +kernel
theorem dX7_odds_91 : decode cX7_odds 91 = .ok (.istore 7, 2) := by decide +kernel
theorem dX7_odds_93 : decode cX7_odds 93 = .ok (.iconst 1, 1) := by decide +kernel
theorem dX7_odds_94 : decode cX7_odds 94 = .ok (.istore 8, 2) := by decide +kernel
theorem dX7_odds_96 : decode cX7_odds 96 = .ok (.iconst 0, 1) := by decide +kernel
theorem dX7_odds_97 : decode cX7_odds 97 = .ok (.istore 9, 2) := by decide +kernel
theorem dX7_odds_99 : decode cX7_odds 99 = .ok (.iload 9, 2) := by decide +kernel
theorem dX7_odds_101 : decode cX7_odds 101 = .ok (.iload 6, 2) := by decide +kernel
theorem dX7_odds_103 : decode cX7_odds 103 = .ok (.if_icmp .ge 16, 3) := by decide +kernel
theorem dX7_odds_106 : decode cX7_odds 106 = .ok (.iload 8, 2) := by decide +kernel
theorem dX7_odds_108 : decode cX7_odds 108 = .ok (.bipush 10, 2) := by decide +kernel
theorem dX7_odds_110 : decode cX7_odds 110 = .ok (.imul, 1) := by decide +kernel
theorem dX7_odds_111 : decode cX7_odds 111 = .ok (.istore 8, 2) := by decide +kernel
theorem dX7_odds_113 : decode cX7_odds 113 = .ok (.iinc 9 1, 3) := by decide +kernel
theorem dX7_odds_116 : decode cX7_odds 116 = .ok (.goto (-17), 3) := by decide +kernel
theorem dX7_odds_119 : decode cX7_odds 119 = .ok (.iconst 0, 1) := by decide +kernel
theorem dX7_odds_120 : decode cX7_odds 120 = .ok (.istore 9, 2) := by decide +kernel
theorem dX7_odds_122 : decode cX7_odds 122 = .ok (.iload 9, 2) := by decide +kernel
theorem dX7_odds_124 : decode cX7_odds 124 = .ok (.iconst 1, 1) := by decide +kernel
theorem dX7_odds_125 : decode cX7_odds 125 = .ok (.iload 6, 2) := by decide +kernel
theorem dX7_odds_127 : decode cX7_odds 127 = .ok (.ishl, 1) := by decide +kernel
theorem dX7_odds_128 : decode cX7_odds 128 = .ok (.if_icmp .ge 92, 3) := by decide +kernel
theorem dX7_odds_131 : decode cX7_odds 131 = .ok (.iconst 1, 1) := by decide +kernel
theorem dX7_odds_132 : decode cX7_odds 132 = .ok (.istore 10, 2) := by decide +kernel
theorem dX7_odds_134 : decode cX7_odds 134 = .ok (.iload 5, 2) := by decide +kernel
theorem dX7_odds_136 : decode cX7_odds 136 = .ok (.istore 11, 2) := by decide +kernel
theorem dX7_odds_138 : decode cX7_odds 138 = .ok (.iconst 0, 1) := by decide +kernel
theorem dX7_odds_139 : decode cX7_odds 139 = .ok (.istore 12, 2) := by decide +kernel
theorem dX7_odds_141 : decode cX7_odds 141 = .ok (.iload 12, 2) := by decide +kernel
theorem dX7_odds_143 : decode cX7_odds 143 = .ok (.iload 6, 2) := by decide +kernel
theorem dX7_odds_145 : decode cX7_odds 145 = .ok (.if_icmp .ge 52, 3) := by decide +kernel
theorem dX7_odds_148 : decode cX7_odds 148 = .ok (.iload 10, 2) := by decide +kernel
theorem dX7_odds_150 : decode cX7_odds 150 = .ok (.iload 9, 2) := by decide +kernel
theorem dX7_odds_152 : decode cX7_odds 152 = .ok (.iload 12, 2) := by decide +kernel
theorem dX7_odds_154 : decode cX7_odds 154 = .ok (.invokestatic 209, 3) := by decide +kernel
theorem dX7_odds_157 : decode cX7_odds 157 = .ok (.ifCond .eq 7, 3) := by decide +kernel
theorem dX7_odds_160 : decode cX7_odds 160 = .ok (.iload_n 2, 1) := by decide +kernel
theorem dX7_odds_161 : decode cX7_odds 161 = .ok (.goto 7, 3) := by decide +kernel
theorem dX7_odds_164 : decode cX7_odds 164 = .ok (.bipush 10, 2) := by decide +kernel
theorem dX7_odds_166 : decode cX7_odds 166 = .ok (.iload_n 2, 1) := by decide +kernel
theorem dX7_odds_167 : decode cX7_odds 167 = .ok (.isub, 1) := by decide +kernel
theorem dX7_odds_168 : decode cX7_odds 168 = .ok (.imul, 1) := by decide +kernel
theorem dX7_odds_169 : decode cX7_odds 169 = .ok (.istore 10, 2) := by decide +kernel
theorem dX7_odds_171 : decode cX7_odds 171 = .ok (.iload 11, 2) := by decide +kernel
theorem dX7_odds_173 : decode cX7_odds 173 = .ok (.iload 9, 2) := by decide +kernel
theorem dX7_odds_175 : decode cX7_odds 175 = .ok (.iload 12, 2) := by decide +kernel
theorem dX7_odds_177 : decode cX7_odds 177 = .ok (.invokestatic 209, 3) := by decide +kernel
theorem dX7_odds_180 : decode cX7_odds 180 = .ok (.ifCond .eq 7, 3) := by decide +kernel
theorem dX7_odds_183 : decode cX7_odds 183 = .ok (.iconst 5, 1) := by decide +kernel
theorem dX7_odds_184 : decode cX7_odds 184 = .ok (.goto 4, 3) := by decide +kernel
theorem dX7_odds_187 : decode cX7_odds 187 = .ok (.iconst 0, 1) := by decide +kernel
theorem dX7_odds_188 : decode cX7_odds 188 = .ok (.iadd, 1) := by decide +kernel
theorem dX7_odds_189 : decode cX7_odds 189 = .ok (.istore 11, 2) := by decide +kernel
theorem dX7_odds_191 : decode cX7_odds 191 = .ok (.iinc 12 1, 3) := by decide +kernel
theorem dX7_odds_194 : decode cX7_odds 194 = .ok (.goto (-53), 3) := by decide +kernel
theorem dX7_odds_197 : decode cX7_odds 197 = .ok (.iload 7, 2) := by decide +kernel
theorem dX7_odds_199 : decode cX7_odds 199 = .ok (.iload 11, 2) := by decide +kernel
theorem dX7_odds_201 : decode cX7_odds 201 = .ok (.iload_n 3, 1) := by decide +kernel
theorem dX7_odds_202 : decode cX7_odds 202 = .ok (.if_icmp .gt 8, 3) := by decide +kernel
theorem dX7_odds_205 : decode cX7_odds 205 = .ok (.iload 10, 2) := by decide +kernel
theorem dX7_odds_207 : decode cX7_odds 207 = .ok (.goto 4, 3) := by decide +kernel
theorem dX7_odds_210 : decode cX7_odds 210 = .ok (.iconst 0, 1) := by decide +kernel
theorem dX7_odds_211 : decode cX7_odds 211 = .ok (.iadd, 1) := by decide +kernel
theorem dX7_odds_212 : decode cX7_odds 212 = .ok (.istore 7, 2) := by decide +kernel
theorem dX7_odds_214 : decode cX7_odds 214 = .ok (.iinc 9 1, 3) := by decide +kernel
theorem dX7_odds_217 : decode cX7_odds 217 = .ok (.goto (-95), 3) := by decide +kernel
theorem dX7_odds_220 : decode cX7_odds 220 = .ok (.iload 7, 2) := by decide +kernel
theorem dX7_odds_222 : decode cX7_odds 222 = .ok (.istore 9, 2) := by decide +kernel
theorem dX7_odds_224 : decode cX7_odds 224 = .ok (.iload 8, 2) := by decide +kernel
theorem dX7_odds_226 : decode cX7_odds 226 = .ok (.istore 10, 2) := by decide +kernel
theorem dX7_odds_228 : decode cX7_odds 228 = .ok (.iload 10, 2) := by decide +kernel
theorem dX7_odds_230 : decode cX7_odds 230 = .ok (.ifCond .le 21, 3) := by decide +kernel
theorem dX7_odds_233 : decode cX7_odds 233 = .ok (.iload 9, 2) := by decide +kernel
theorem dX7_odds_235 : decode cX7_odds 235 = .ok (.iload 10, 2) := by decide +kernel
theorem dX7_odds_237 : decode cX7_odds 237 = .ok (.irem, 1) := by decide +kernel
theorem dX7_odds_238 : decode cX7_odds 238 = .ok (.istore 11, 2) := by decide +kernel
theorem dX7_odds_240 : decode cX7_odds 240 = .ok (.iload 10, 2) := by decide +kernel
theorem dX7_odds_242 : decode cX7_odds 242 = .ok (.istore 9, 2) := by decide +kernel
theorem dX7_odds_244 : decode cX7_odds 244 = .ok (.iload 11, 2) := by decide +kernel
theorem dX7_odds_246 : decode cX7_odds 246 = .ok (.istore 10, 2) := by decide +kernel
theorem dX7_odds_248 : decode cX7_odds 248 = .ok (.goto (-20), 3) := by decide +kernel
theorem dX7_odds_251 : decode cX7_odds 251 = .ok (.iload 4, 2) := by decide +kernel
theorem dX7_odds_253 : decode cX7_odds 253 = .ok (.ifCond .ne 8, 3) := by decide +kernel
theorem dX7_odds_256 : decode cX7_odds 256 = .ok (.iload 7, 2) := by decide +kernel
theorem dX7_odds_258 : decode cX7_odds 258 = .ok (.goto 5, 3) := by decide +kernel
theorem dX7_odds_261 : decode cX7_odds 261 = .ok (.iload 8, 2) := by decide +kernel
theorem dX7_odds_263 : decode cX7_odds 263 = .ok (.iload 9, 2) := by decide +kernel
theorem dX7_odds_265 : decode cX7_odds 265 = .ok (.idiv, 1) := by decide +kernel
theorem dX7_odds_266 : decode cX7_odds 266 = .ok (.ireturn, 1) := by decide +kernel
theorem dX7_saw_0 : decode cX7_saw 0 = .ok (.aload_n 0, 1) := by decide +kernel
theorem dX7_saw_1 : decode cX7_saw 1 = .ok (.iload_n 1, 1) := by decide +kernel
theorem dX7_saw_2 : decode cX7_saw 2 = .ok (.invokevirtual 161, 3) := by decide +kernel
theorem dX7_saw_5 : decode cX7_saw 5 = .ok (.ifCond .eq 27, 3) := by decide +kernel
theorem dX7_saw_8 : decode cX7_saw 8 = .ok (.aload_n 0, 1) := by decide +kernel
theorem dX7_saw_9 : decode cX7_saw 9 = .ok (.getfield 13, 3) := by decide +kernel
theorem dX7_saw_12 : decode cX7_saw 12 = .ok (.iconst 4, 1) := by decide +kernel
theorem dX7_saw_13 : decode cX7_saw 13 = .ok (.iload_n 1, 1) := by decide +kernel
theorem dX7_saw_14 : decode cX7_saw 14 = .ok (.imul, 1) := by decide +kernel
theorem dX7_saw_15 : decode cX7_saw 15 = .ok (.iconst 3, 1) := by decide +kernel
theorem dX7_saw_16 : decode cX7_saw 16 = .ok (.iadd, 1) := by decide +kernel
theorem dX7_saw_17 : decode cX7_saw 17 = .ok (.iaload, 1) := by decide +kernel
theorem dX7_saw_18 : decode cX7_saw 18 = .ok (.ifCond .eq 14, 3) := by decide +kernel
theorem dX7_saw_21 : decode cX7_saw 21 = .ok (.iload_n 2, 1) := by decide +kernel
theorem dX7_saw_22 : decode cX7_saw 22 = .ok (.iconst 0, 1) := by decide +kernel
theorem dX7_saw_23 : decode cX7_saw 23 = .ok (.sipush 9999, 3) := by decide +kernel
theorem dX7_saw_26 : decode cX7_saw 26 = .ok (.invokestatic 72, 3) := by decide +kernel
theorem dX7_saw_29 : decode cX7_saw 29 = .ok (.ifCond .ne 5, 3) := by decide +kernel
theorem dX7_saw_32 : decode cX7_saw 32 = .ok (.iconst (-1), 1) := by decide +kernel
theorem dX7_saw_33 : decode cX7_saw 33 = .ok (.ireturn, 1) := by decide +kernel
theorem dX7_saw_34 : decode cX7_saw 34 = .ok (.aload_n 0, 1) := by decide +kernel
theorem dX7_saw_35 : decode cX7_saw 35 = .ok (.getfield 140, 3) := by decide +kernel
theorem dX7_saw_38 : decode cX7_saw 38 = .ok (.bipush 6, 2) := by decide +kernel
theorem dX7_saw_40 : decode cX7_saw 40 = .ok (.if_icmp .ne 6, 3) := by decide +kernel
theorem dX7_saw_43 : decode cX7_saw 43 = .ok (.bipush (-3), 2) := by decide +kernel
theorem dX7_saw_45 : decode cX7_saw 45 = .ok (.ireturn, 1) := by decide +kernel
theorem dX7_saw_46 : decode cX7_saw 46 = .ok (.aload_n 0, 1) := by decide +kernel
theorem dX7_saw_47 : decode cX7_saw 47 = .ok (.getfield 33, 3) := by decide +kernel
theorem dX7_saw_50 : decode cX7_saw 50 = .ok (.iconst 2, 1) := by decide +kernel
theorem dX7_saw_51 : decode cX7_saw 51 = .ok (.aload_n 0, 1) := by decide +kernel
theorem dX7_saw_52 : decode cX7_saw 52 = .ok (.getfield 140, 3) := by decide +kernel
theorem dX7_saw_55 : decode cX7_saw 55 = .ok (.imul, 1) := by decide +kernel
theorem dX7_saw_56 : decode cX7_saw 56 = .ok (.iload_n 1, 1) := by decide +kernel
theorem dX7_saw_57 : decode cX7_saw 57 = .ok (.iastore, 1) := by decide +kernel
theorem dX7_saw_58 : decode cX7_saw 58 = .ok (.aload_n 0, 1) := by decide +kernel
theorem dX7_saw_59 : decode cX7_saw 59 = .ok (.getfield 33, 3) := by decide +kernel
theorem dX7_saw_62 : decode cX7_saw 62 = .ok (.iconst 2, 1) := by decide +kernel
theorem dX7_saw_63 : decode cX7_saw 63 = .ok (.aload_n 0, 1) := by decide +kernel
theorem dX7_saw_64 : decode cX7_saw 64 = .ok (.getfield 140, 3) := by decide +kernel
theorem dX7_saw_67 : decode cX7_saw 67 = .ok (.imul, 1) := by decide +kernel
theorem dX7_saw_68 : decode cX7_saw 68 = .ok (.iconst 1, 1) := by decide +kernel
theorem dX7_saw_69 : decode cX7_saw 69 = .ok (.iadd, 1) := by decide +kernel
theorem dX7_saw_70 : decode cX7_saw 70 = .ok (.iload_n 2, 1) := by decide +kernel
theorem dX7_saw_71 : decode cX7_saw 71 = .ok (.iastore, 1) := by decide +kernel
theorem dX7_saw_72 : decode cX7_saw 72 = .ok (.aload_n 0, 1) := by decide +kernel
theorem dX7_saw_73 : decode cX7_saw 73 = .ok (.dup, 1) := by decide +kernel
theorem dX7_saw_74 : decode cX7_saw 74 = .ok (.getfield 140, 3) := by decide +kernel
theorem dX7_saw_77 : decode cX7_saw 77 = .ok (.iconst 1, 1) := by decide +kernel
theorem dX7_saw_78 : decode cX7_saw 78 = .ok (.iadd, 1) := by decide +kernel
theorem dX7_saw_79 : decode cX7_saw 79 = .ok (.putfield 140, 3) := by decide +kernel
theorem dX7_saw_82 : decode cX7_saw 82 = .ok (.aload_n 0, 1) := by decide +kernel
theorem dX7_saw_83 : decode cX7_saw 83 = .ok (.getfield 140, 3) := by decide +kernel
theorem dX7_saw_86 : decode cX7_saw 86 = .ok (.ireturn, 1) := by decide +kernel
theorem dX7_forget_0 : decode cX7_forget 0 = .ok (.aload_n 0, 1) := by decide +kernel
theorem dX7_forget_1 : decode cX7_forget 1 = .ok (.getfield 140, 3) := by decide +kernel
theorem dX7_forget_4 : decode cX7_forget 4 = .ok (.istore_n 1, 1) := by decide +kernel
theorem dX7_forget_5 : decode cX7_forget 5 = .ok (.aload_n 0, 1) := by decide +kernel
theorem dX7_forget_6 : decode cX7_forget 6 = .ok (.iconst 0, 1) := by decide +kernel
theorem dX7_forget_7 : decode cX7_forget 7 = .ok (.putfield 140, 3) := by decide +kernel
theorem dX7_forget_10 : decode cX7_forget 10 = .ok (.iload_n 1, 1) := by decide +kernel
theorem dX7_forget_11 : decode cX7_forget 11 = .ok (.ireturn, 1) := by decide +kernel
theorem dX7_findFits_0 : decode cX7_findFits 0 = .ok (.iconst 0, 1) := by decide +kernel
theorem dX7_findFits_1 : decode cX7_findFits 1 = .ok (.istore_n 1, 1) := by decide +kernel
theorem dX7_findFits_2 : decode cX7_findFits 2 = .ok (.iload_n 1, 1) := by decide +kernel
theorem dX7_findFits_3 : decode cX7_findFits 3 = .ok (.iconst 4, 1) := by decide +kernel
theorem dX7_findFits_4 : decode cX7_findFits 4 = .ok (.if_icmp .ge 16, 3) := by decide +kernel
theorem dX7_findFits_7 : decode cX7_findFits 7 = .ok (.aload_n 0, 1) := by decide +kernel
theorem dX7_findFits_8 : decode cX7_findFits 8 = .ok (.getfield 48, 3) := by decide +kernel
theorem dX7_findFits_11 : decode cX7_findFits 11 = .ok (.iload_n 1, 1) := by decide +kernel
theorem dX7_findFits_12 : decode cX7_findFits 12 = .ok (.iconst 0, 1) := by decide +kernel
theorem dX7_findFits_13 : decode cX7_findFits 13 = .ok (.iastore, 1) := by decide +kernel
theorem dX7_findFits_14 : decode cX7_findFits 14 = .ok (.iinc 1 1, 3) := by decide +kernel
theorem dX7_findFits_17 : decode cX7_findFits 17 = .ok (.goto (-15), 3) := by decide +kernel
theorem dX7_findFits_20 : decode cX7_findFits 20 = .ok (.aload_n 0, 1) := by decide +kernel
theorem dX7_findFits_21 : decode cX7_findFits 21 = .ok (.getfield 51, 3) := by decide +kernel
theorem dX7_findFits_24 : decode cX7_findFits 24 = .ok (.iconst 0, 1) := by decide +kernel
theorem dX7_findFits_25 : decode cX7_findFits 25 = .ok (.iconst 0, 1) := by decide +kernel
theorem dX7_findFits_26 : decode cX7_findFits 26 = .ok (.iastore, 1) := by decide +kernel
theorem dX7_findFits_27 : decode cX7_findFits 27 = .ok (.aload_n 0, 1) := by decide +kernel
theorem dX7_findFits_28 : decode cX7_findFits 28 = .ok (.getfield 54, 3) := by decide +kernel
theorem dX7_findFits_31 : decode cX7_findFits 31 = .ok (.iconst 0, 1) := by decide +kernel
theorem dX7_findFits_32 : decode cX7_findFits 32 = .ok (.bipush (-9), 2) := by decide +kernel
theorem dX7_findFits_34 : decode cX7_findFits 34 = .ok (.iastore, 1) := by decide +kernel
theorem dX7_findFits_35 : decode cX7_findFits 35 = .ok (.aload_n 0, 1) := by decide +kernel
theorem dX7_findFits_36 : decode cX7_findFits 36 = .ok (.iconst 0, 1) := by decide +kernel
theorem dX7_findFits_37 : decode cX7_findFits 37 = .ok (.iconst 2, 1) := by decide +kernel
theorem dX7_findFits_38 : decode cX7_findFits 38 = .ok (.invokevirtual 196, 3) := by decide +kernel
theorem dX7_findFits_41 : decode cX7_findFits 41 = .ok (.return_, 1) := by decide +kernel
theorem dX7_fits_0 : decode cX7_fits 0 = .ok (.iload_n 1, 1) := by decide +kernel
theorem dX7_fits_1 : decode cX7_fits 1 = .ok (.iconst (-1), 1) := by decide +kernel
theorem dX7_fits_2 : decode cX7_fits 2 = .ok (.aload_n 0, 1) := by decide +kernel
theorem dX7_fits_3 : decode cX7_fits 3 = .ok (.getfield 76, 3) := by decide +kernel
theorem dX7_fits_6 : decode cX7_fits 6 = .ok (.iconst 1, 1) := by decide +kernel
theorem dX7_fits_7 : decode cX7_fits 7 = .ok (.isub, 1) := by decide +kernel
theorem dX7_fits_8 : decode cX7_fits 8 = .ok (.invokestatic 72, 3) := by decide +kernel
theorem dX7_fits_11 : decode cX7_fits 11 = .ok (.ifCond .ne 5, 3) := by decide +kernel
theorem dX7_fits_14 : decode cX7_fits 14 = .ok (.iconst (-1), 1) := by decide +kernel
theorem dX7_fits_15 : decode cX7_fits 15 = .ok (.ireturn, 1) := by decide +kernel
theorem dX7_fits_16 : decode cX7_fits 16 = .ok (.aload_n 0, 1) := by decide +kernel
theorem dX7_fits_17 : decode cX7_fits 17 = .ok (.invokevirtual 215, 3) := by decide +kernel
theorem dX7_fits_20 : decode cX7_fits 20 = .ok (.iload_n 1, 1) := by decide +kernel
theorem dX7_fits_21 : decode cX7_fits 21 = .ok (.ifCond .ge 10, 3) := by decide +kernel
theorem dX7_fits_24 : decode cX7_fits 24 = .ok (.aload_n 0, 1) := by decide +kernel
theorem dX7_fits_25 : decode cX7_fits 25 = .ok (.getfield 179, 3) := by decide +kernel
theorem dX7_fits_28 : decode cX7_fits 28 = .ok (.goto 21, 3) := by decide +kernel
theorem dX7_fits_31 : decode cX7_fits 31 = .ok (.aload_n 0, 1) := by decide +kernel
theorem dX7_fits_32 : decode cX7_fits 32 = .ok (.getfield 179, 3) := by decide +kernel
theorem dX7_fits_35 : decode cX7_fits 35 = .ok (.ifCond .ne 8, 3) := by decide +kernel
theorem dX7_fits_38 : decode cX7_fits 38 = .ok (.bipush (-9), 2) := by decide +kernel
theorem dX7_fits_40 : decode cX7_fits 40 = .ok (.goto 9, 3) := by decide +kernel
theorem dX7_fits_43 : decode cX7_fits 43 = .ok (.aload_n 0, 1) := by decide +kernel
theorem dX7_fits_44 : decode cX7_fits 44 = .ok (.getfield 60, 3) := by decide +kernel
theorem dX7_fits_47 : decode cX7_fits 47 = .ok (.iload_n 1, 1) := by decide +kernel
theorem dX7_fits_48 : decode cX7_fits 48 = .ok (.iaload, 1) := by decide +kernel
theorem dX7_fits_49 : decode cX7_fits 49 = .ok (.ireturn, 1) := by decide +kernel
theorem dX7_surely_0 : decode cX7_surely 0 = .ok (.aload_n 0, 1) := by decide +kernel
theorem dX7_surely_1 : decode cX7_surely 1 = .ok (.iload_n 1, 1) := by decide +kernel
theorem dX7_surely_2 : decode cX7_surely 2 = .ok (.invokevirtual 161, 3) := by decide +kernel
theorem dX7_surely_5 : decode cX7_surely 5 = .ok (.ifCond .ne 5, 3) := by decide +kernel
theorem dX7_surely_8 : decode cX7_surely 8 = .ok (.iconst (-1), 1) := by decide +kernel
theorem dX7_surely_9 : decode cX7_surely 9 = .ok (.ireturn, 1) := by decide +kernel
theorem dX7_surely_10 : decode cX7_surely 10 = .ok (.aload_n 0, 1) := by decide +kernel
theorem dX7_surely_11 : decode cX7_surely 11 = .ok (.invokevirtual 215, 3) := by decide +kernel
theorem dX7_surely_14 : decode cX7_surely 14 = .ok (.aload_n 0, 1) := by decide +kernel
theorem dX7_surely_15 : decode cX7_surely 15 = .ok (.getfield 179, 3) := by decide +kernel
theorem dX7_surely_18 : decode cX7_surely 18 = .ok (.ifCond .ne 7, 3) := by decide +kernel
theorem dX7_surely_21 : decode cX7_surely 21 = .ok (.iconst 0, 1) := by decide +kernel
theorem dX7_surely_22 : decode cX7_surely 22 = .ok (.goto 9, 3) := by decide +kernel
theorem dX7_surely_25 : decode cX7_surely 25 = .ok (.aload_n 0, 1) := by decide +kernel
theorem dX7_surely_26 : decode cX7_surely 26 = .ok (.getfield 63, 3) := by decide +kernel
theorem dX7_surely_29 : decode cX7_surely 29 = .ok (.iload_n 1, 1) := by decide +kernel
theorem dX7_surely_30 : decode cX7_surely 30 = .ok (.iaload, 1) := by decide +kernel
theorem dX7_surely_31 : decode cX7_surely 31 = .ok (.ireturn, 1) := by decide +kernel
theorem dX7_stepMark_0 : decode cX7_stepMark 0 = .ok (.aload_n 0, 1) := by decide +kernel
theorem dX7_stepMark_1 : decode cX7_stepMark 1 = .ok (.dup, 1) := by decide +kernel
theorem dX7_stepMark_2 : decode cX7_stepMark 2 = .ok (.getfield 218, 3) := by decide +kernel
theorem dX7_stepMark_5 : decode cX7_stepMark 5 = .ok (.lconst 1, 1) := by decide +kernel
theorem dX7_stepMark_6 : decode cX7_stepMark 6 = .ok (.ladd, 1) := by decide +kernel
theorem dX7_stepMark_7 : decode cX7_stepMark 7 = .ok (.putfield 218, 3) := by decide +kernel
theorem dX7_stepMark_10 : decode cX7_stepMark 10 = .ok (.aload_n 0, 1) := by decide +kernel
theorem dX7_stepMark_11 : decode cX7_stepMark 11 = .ok (.getfield 13, 3) := by decide +kernel
theorem dX7_stepMark_14 : decode cX7_stepMark 14 = .ok (.iconst 4, 1) := by decide +kernel
theorem dX7_stepMark_15 : decode cX7_stepMark 15 = .ok (.iload_n 1, 1) := by decide +kernel
theorem dX7_stepMark_16 : decode cX7_stepMark 16 = .ok (.imul, 1) := by decide +kernel
theorem dX7_stepMark_17 : decode cX7_stepMark 17 = .ok (.iaload, 1) := by decide +kernel
theorem dX7_stepMark_18 : decode cX7_stepMark 18 = .ok (.ireturn, 1) := by decide +kernel
theorem dX7_firmMark_0 : decode cX7_firmMark 0 = .ok (.aload_n 0, 1) := by decide +kernel
theorem dX7_firmMark_1 : decode cX7_firmMark 1 = .ok (.dup, 1) := by decide +kernel
theorem dX7_firmMark_2 : decode cX7_firmMark 2 = .ok (.getfield 218, 3) := by decide +kernel
theorem dX7_firmMark_5 : decode cX7_firmMark 5 = .ok (.ldc2_w 222, 3) := by decide +kernel
theorem dX7_firmMark_8 : decode cX7_firmMark 8 = .ok (.ladd, 1) := by decide +kernel
theorem dX7_firmMark_9 : decode cX7_firmMark 9 = .ok (.putfield 218, 3) := by decide +kernel
theorem dX7_firmMark_12 : decode cX7_firmMark 12 = .ok (.aload_n 0, 1) := by decide +kernel
theorem dX7_firmMark_13 : decode cX7_firmMark 13 = .ok (.iload_n 1, 1) := by decide +kernel
theorem dX7_firmMark_14 : decode cX7_firmMark 14 = .ok (.invokevirtual 224, 3) := by decide +kernel
theorem dX7_firmMark_17 : decode cX7_firmMark 17 = .ok (.aload_n 0, 1) := by decide +kernel
theorem dX7_firmMark_18 : decode cX7_firmMark 18 = .ok (.getfield 13, 3) := by decide +kernel
theorem dX7_firmMark_21 : decode cX7_firmMark 21 = .ok (.iconst 4, 1) := by decide +kernel
theorem dX7_firmMark_22 : decode cX7_firmMark 22 = .ok (.iload_n 1, 1) := by decide +kernel
theorem dX7_firmMark_23 : decode cX7_firmMark 23 = .ok (.imul, 1) := by decide +kernel
theorem dX7_firmMark_24 : decode cX7_firmMark 24 = .ok (.iconst 1, 1) := by decide +kernel
theorem dX7_firmMark_25 : decode cX7_firmMark 25 = .ok (.iadd, 1) := by decide +kernel
theorem dX7_firmMark_26 : decode cX7_firmMark 26 = .ok (.iaload, 1) := by decide +kernel
theorem dX7_firmMark_27 : decode cX7_firmMark 27 = .ok (.iadd, 1) := by decide +kernel
theorem dX7_firmMark_28 : decode cX7_firmMark 28 = .ok (.ireturn, 1) := by decide +kernel
theorem dX7_slimyMark_0 : decode cX7_slimyMark 0 = .ok (.aload_n 0, 1) := by decide +kernel
theorem dX7_slimyMark_1 : decode cX7_slimyMark 1 = .ok (.dup, 1) := by decide +kernel
theorem dX7_slimyMark_2 : decode cX7_slimyMark 2 = .ok (.getfield 218, 3) := by decide +kernel
theorem dX7_slimyMark_5 : decode cX7_slimyMark 5 = .ok (.ldc2_w 227, 3) := by decide +kernel
theorem dX7_slimyMark_8 : decode cX7_slimyMark 8 = .ok (.ladd, 1) := by decide +kernel
theorem dX7_slimyMark_9 : decode cX7_slimyMark 9 = .ok (.putfield 218, 3) := by decide +kernel
theorem dX7_slimyMark_12 : decode cX7_slimyMark 12 = .ok (.iconst 0, 1) := by decide +kernel
theorem dX7_slimyMark_13 : decode cX7_slimyMark 13 = .ok (.istore_n 2, 1) := by decide +kernel
theorem dX7_slimyMark_14 : decode cX7_slimyMark 14 = .ok (.iconst 0, 1) := by decide +kernel
theorem dX7_slimyMark_15 : decode cX7_slimyMark 15 = .ok (.istore_n 3, 1) := by decide +kernel
theorem dX7_slimyMark_16 : decode cX7_slimyMark 16 = .ok (.iload_n 3, 1) := by decide +kernel
theorem dX7_slimyMark_17 : decode cX7_slimyMark 17 = .ok (.aload_n 0, 1) := by decide +kernel
theorem dX7_slimyMark_18 : decode cX7_slimyMark 18 = .ok (.getfield 69, 3) := by decide +kernel
theorem dX7_slimyMark_21 : decode cX7_slimyMark 21 = .ok (.if_icmp .ge 20, 3) := by decide +kernel
theorem dX7_slimyMark_24 : decode cX7_slimyMark 24 = .ok (.iload_n 2, 1) := by decide +kernel
theorem dX7_slimyMark_25 : decode cX7_slimyMark 25 = .ok (.aload_n 0, 1) := by decide +kernel
theorem dX7_slimyMark_26 : decode cX7_slimyMark 26 = .ok (.getfield 20, 3) := by decide +kernel
theorem dX7_slimyMark_29 : decode cX7_slimyMark 29 = .ok (.iconst 3, 1) := by decide +kernel
theorem dX7_slimyMark_30 : decode cX7_slimyMark 30 = .ok (.iload_n 3, 1) := by decide +kernel
theorem dX7_slimyMark_31 : decode cX7_slimyMark 31 = .ok (.iadd, 1) := by decide +kernel
theorem dX7_slimyMark_32 : decode cX7_slimyMark 32 = .ok (.iaload, 1) := by decide +kernel
theorem dX7_slimyMark_33 : decode cX7_slimyMark 33 = .ok (.iadd, 1) := by decide +kernel
theorem dX7_slimyMark_34 : decode cX7_slimyMark 34 = .ok (.istore_n 2, 1) := by decide +kernel
theorem dX7_slimyMark_35 : decode cX7_slimyMark 35 = .ok (.iinc 3 1, 3) := by decide +kernel
theorem dX7_slimyMark_38 : decode cX7_slimyMark 38 = .ok (.goto (-22), 3) := by decide +kernel
theorem dX7_slimyMark_41 : decode cX7_slimyMark 41 = .ok (.aload_n 0, 1) := by decide +kernel
theorem dX7_slimyMark_42 : decode cX7_slimyMark 42 = .ok (.iload_n 1, 1) := by decide +kernel
theorem dX7_slimyMark_43 : decode cX7_slimyMark 43 = .ok (.invokevirtual 224, 3) := by decide +kernel
theorem dX7_slimyMark_46 : decode cX7_slimyMark 46 = .ok (.iload_n 2, 1) := by decide +kernel
theorem dX7_slimyMark_47 : decode cX7_slimyMark 47 = .ok (.isub, 1) := by decide +kernel
theorem dX7_slimyMark_48 : decode cX7_slimyMark 48 = .ok (.ireturn, 1) := by decide +kernel
theorem dX7_shafts_0 : decode cX7_shafts 0 = .ok (.iconst 0, 1) := by decide +kernel
theorem dX7_shafts_1 : decode cX7_shafts 1 = .ok (.istore_n 1, 1) := by decide +kernel
theorem dX7_shafts_2 : decode cX7_shafts 2 = .ok (.iconst 0, 1) := by decide +kernel
theorem dX7_shafts_3 : decode cX7_shafts 3 = .ok (.istore_n 2, 1) := by decide +kernel
theorem dX7_shafts_4 : decode cX7_shafts 4 = .ok (.iload_n 2, 1) := by decide +kernel
theorem dX7_shafts_5 : decode cX7_shafts 5 = .ok (.aload_n 0, 1) := by decide +kernel
theorem dX7_shafts_6 : decode cX7_shafts 6 = .ok (.getfield 76, 3) := by decide +kernel
theorem dX7_shafts_9 : decode cX7_shafts 9 = .ok (.if_icmp .ge 22, 3) := by decide +kernel
theorem dX7_shafts_12 : decode cX7_shafts 12 = .ok (.iload_n 1, 1) := by decide +kernel
theorem dX7_shafts_13 : decode cX7_shafts 13 = .ok (.aload_n 0, 1) := by decide +kernel
theorem dX7_shafts_14 : decode cX7_shafts 14 = .ok (.getfield 13, 3) := by decide +kernel
theorem dX7_shafts_17 : decode cX7_shafts 17 = .ok (.iconst 4, 1) := by decide +kernel
theorem dX7_shafts_18 : decode cX7_shafts 18 = .ok (.iload_n 2, 1) := by decide +kernel
theorem dX7_shafts_19 : decode cX7_shafts 19 = .ok (.imul, 1) := by decide +kernel
theorem dX7_shafts_20 : decode cX7_shafts 20 = .ok (.iconst 3, 1) := by decide +kernel
theorem dX7_shafts_21 : decode cX7_shafts 21 = .ok (.iadd, 1) := by decide +kernel
theorem dX7_shafts_22 : decode cX7_shafts 22 = .ok (.iaload, 1) := by decide +kernel
theorem dX7_shafts_23 : decode cX7_shafts 23 = .ok (.iadd, 1) := by decide +kernel
theorem dX7_shafts_24 : decode cX7_shafts 24 = .ok (.istore_n 1, 1) := by decide +kernel
theorem dX7_shafts_25 : decode cX7_shafts 25 = .ok (.iinc 2 1, 3) := by decide +kernel
theorem dX7_shafts_28 : decode cX7_shafts 28 = .ok (.goto (-24), 3) := by decide +kernel
theorem dX7_shafts_31 : decode cX7_shafts 31 = .ok (.iload_n 1, 1) := by decide +kernel
theorem dX7_shafts_32 : decode cX7_shafts 32 = .ok (.ireturn, 1) := by decide +kernel
theorem dX7_mark_0 : decode cX7_mark 0 = .ok (.iload_n 1, 1) := by decide +kernel
theorem dX7_mark_1 : decode cX7_mark 1 = .ok (.iconst 0, 1) := by decide +kernel
theorem dX7_mark_2 : decode cX7_mark 2 = .ok (.iconst 5, 1) := by decide +kernel
theorem dX7_mark_3 : decode cX7_mark 3 = .ok (.invokestatic 72, 3) := by decide +kernel
theorem dX7_mark_6 : decode cX7_mark 6 = .ok (.ifCond .eq 11, 3) := by decide +kernel
theorem dX7_mark_9 : decode cX7_mark 9 = .ok (.aload_n 0, 1) := by decide +kernel
theorem dX7_mark_10 : decode cX7_mark 10 = .ok (.iload_n 2, 1) := by decide +kernel
theorem dX7_mark_11 : decode cX7_mark 11 = .ok (.invokevirtual 161, 3) := by decide +kernel
theorem dX7_mark_14 : decode cX7_mark 14 = .ok (.ifCond .ne 6, 3) := by decide +kernel
theorem dX7_mark_17 : decode cX7_mark 17 = .ok (.ldc 229, 2) := by decide +kernel
theorem dX7_mark_19 : decode cX7_mark 19 = .ok (.ireturn, 1) := by decide +kernel
theorem dX7_mark_20 : decode cX7_mark 20 = .ok (.iload_n 1, 1) := by decide +kernel
theorem dX7_mark_21 : decode cX7_mark 21 = .ok (.tableswitch 96 0 4 #[35, 41, 47, 53, 73], 35) := by decide +kernel
theorem dX7_mark_56 : decode cX7_mark 56 = .ok (.aload_n 0, 1) := by decide +kernel
theorem dX7_mark_57 : decode cX7_mark 57 = .ok (.iload_n 2, 1) := by decide +kernel
theorem dX7_mark_58 : decode cX7_mark 58 = .ok (.invokevirtual 224, 3) := by decide +kernel
theorem dX7_mark_61 : decode cX7_mark 61 = .ok (.ireturn, 1) := by decide +kernel
theorem dX7_mark_62 : decode cX7_mark 62 = .ok (.aload_n 0, 1) := by decide +kernel
theorem dX7_mark_63 : decode cX7_mark 63 = .ok (.iload_n 2, 1) := by decide +kernel
theorem dX7_mark_64 : decode cX7_mark 64 = .ok (.invokevirtual 230, 3) := by decide +kernel
theorem dX7_mark_67 : decode cX7_mark 67 = .ok (.ireturn, 1) := by decide +kernel
theorem dX7_mark_68 : decode cX7_mark 68 = .ok (.aload_n 0, 1) := by decide +kernel
theorem dX7_mark_69 : decode cX7_mark 69 = .ok (.iload_n 2, 1) := by decide +kernel
theorem dX7_mark_70 : decode cX7_mark 70 = .ok (.invokevirtual 233, 3) := by decide +kernel
theorem dX7_mark_73 : decode cX7_mark 73 = .ok (.ireturn, 1) := by decide +kernel
theorem dX7_mark_74 : decode cX7_mark 74 = .ok (.aload_n 0, 1) := by decide +kernel
theorem dX7_mark_75 : decode cX7_mark 75 = .ok (.dup, 1) := by decide +kernel
theorem dX7_mark_76 : decode cX7_mark 76 = .ok (.getfield 218, 3) := by decide +kernel
theorem dX7_mark_79 : decode cX7_mark 79 = .ok (.ldc2_w 236, 3) := by decide +kernel
theorem dX7_mark_82 : decode cX7_mark 82 = .ok (.ladd, 1) := by decide +kernel
theorem dX7_mark_83 : decode cX7_mark 83 = .ok (.putfield 218, 3) := by decide +kernel
theorem dX7_mark_86 : decode cX7_mark 86 = .ok (.iconst 2, 1) := by decide +kernel
theorem dX7_mark_87 : decode cX7_mark 87 = .ok (.aload_n 0, 1) := by decide +kernel
theorem dX7_mark_88 : decode cX7_mark 88 = .ok (.iload_n 2, 1) := by decide +kernel
theorem dX7_mark_89 : decode cX7_mark 89 = .ok (.invokevirtual 230, 3) := by decide +kernel
theorem dX7_mark_92 : decode cX7_mark 92 = .ok (.imul, 1) := by decide +kernel
theorem dX7_mark_93 : decode cX7_mark 93 = .ok (.ireturn, 1) := by decide +kernel
theorem dX7_mark_94 : decode cX7_mark 94 = .ok (.aload_n 0, 1) := by decide +kernel
theorem dX7_mark_95 : decode cX7_mark 95 = .ok (.dup, 1) := by decide +kernel
theorem dX7_mark_96 : decode cX7_mark 96 = .ok (.getfield 218, 3) := by decide +kernel
theorem dX7_mark_99 : decode cX7_mark 99 = .ok (.ldc2_w 238, 3) := by decide +kernel
theorem dX7_mark_102 : decode cX7_mark 102 = .ok (.ladd, 1) := by decide +kernel
theorem dX7_mark_103 : decode cX7_mark 103 = .ok (.putfield 218, 3) := by decide +kernel
theorem dX7_mark_106 : decode cX7_mark 106 = .ok (.aload_n 0, 1) := by decide +kernel
theorem dX7_mark_107 : decode cX7_mark 107 = .ok (.iload_n 2, 1) := by decide +kernel
theorem dX7_mark_108 : decode cX7_mark 108 = .ok (.invokevirtual 233, 3) := by decide +kernel
theorem dX7_mark_111 : decode cX7_mark 111 = .ok (.aload_n 0, 1) := by decide +kernel
theorem dX7_mark_112 : decode cX7_mark 112 = .ok (.invokevirtual 240, 3) := by decide +kernel
theorem dX7_mark_115 : decode cX7_mark 115 = .ok (.iadd, 1) := by decide +kernel
theorem dX7_mark_116 : decode cX7_mark 116 = .ok (.ireturn, 1) := by decide +kernel
theorem dX7_mark_117 : decode cX7_mark 117 = .ok (.aload_n 0, 1) := by decide +kernel
theorem dX7_mark_118 : decode cX7_mark 118 = .ok (.dup, 1) := by decide +kernel
theorem dX7_mark_119 : decode cX7_mark 119 = .ok (.getfield 218, 3) := by decide +kernel
theorem dX7_mark_122 : decode cX7_mark 122 = .ok (.ldc2_w 244, 3) := by decide +kernel
theorem dX7_mark_125 : decode cX7_mark 125 = .ok (.ladd, 1) := by decide +kernel
theorem dX7_mark_126 : decode cX7_mark 126 = .ok (.putfield 218, 3) := by decide +kernel
theorem dX7_mark_129 : decode cX7_mark 129 = .ok (.aload_n 0, 1) := by decide +kernel
theorem dX7_mark_130 : decode cX7_mark 130 = .ok (.iload_n 2, 1) := by decide +kernel
theorem dX7_mark_131 : decode cX7_mark 131 = .ok (.invokevirtual 224, 3) := by decide +kernel
theorem dX7_mark_134 : decode cX7_mark 134 = .ok (.aload_n 0, 1) := by decide +kernel
theorem dX7_mark_135 : decode cX7_mark 135 = .ok (.getfield 20, 3) := by decide +kernel
theorem dX7_mark_138 : decode cX7_mark 138 = .ok (.iconst 1, 1) := by decide +kernel
theorem dX7_mark_139 : decode cX7_mark 139 = .ok (.iaload, 1) := by decide +kernel
theorem dX7_mark_140 : decode cX7_mark 140 = .ok (.iadd, 1) := by decide +kernel
theorem dX7_mark_141 : decode cX7_mark 141 = .ok (.ireturn, 1) := by decide +kernel
theorem dX7_keep_0 : decode cX7_keep 0 = .ok (.iload_n 1, 1) := by decide +kernel
theorem dX7_keep_1 : decode cX7_keep 1 = .ok (.iconst 0, 1) := by decide +kernel
theorem dX7_keep_2 : decode cX7_keep 2 = .ok (.iconst 1, 1) := by decide +kernel
theorem dX7_keep_3 : decode cX7_keep 3 = .ok (.invokestatic 72, 3) := by decide +kernel
theorem dX7_keep_6 : decode cX7_keep 6 = .ok (.ifCond .ne 5, 3) := by decide +kernel
theorem dX7_keep_9 : decode cX7_keep 9 = .ok (.iconst (-1), 1) := by decide +kernel
theorem dX7_keep_10 : decode cX7_keep 10 = .ok (.ireturn, 1) := by decide +kernel
theorem dX7_keep_11 : decode cX7_keep 11 = .ok (.bipush 78, 2) := by decide +kernel
theorem dX7_keep_13 : decode cX7_keep 13 = .ok (.iload_n 1, 1) := by decide +kernel
theorem dX7_keep_14 : decode cX7_keep 14 = .ok (.imul, 1) := by decide +kernel
theorem dX7_keep_15 : decode cX7_keep 15 = .ok (.istore_n 2, 1) := by decide +kernel
theorem dX7_keep_16 : decode cX7_keep 16 = .ok (.iconst 0, 1) := by decide +kernel
theorem dX7_keep_17 : decode cX7_keep 17 = .ok (.istore_n 3, 1) := by decide +kernel
theorem dX7_keep_18 : decode cX7_keep 18 = .ok (.iload_n 3, 1) := by decide +kernel
theorem dX7_keep_19 : decode cX7_keep 19 = .ok (.bipush 7, 2) := by decide +kernel
theorem dX7_keep_21 : decode cX7_keep 21 = .ok (.if_icmp .ge 23, 3) := by decide +kernel
theorem dX7_keep_24 : decode cX7_keep 24 = .ok (.aload_n 0, 1) := by decide +kernel
theorem dX7_keep_25 : decode cX7_keep 25 = .ok (.getfield 26, 3) := by decide +kernel
theorem dX7_keep_28 : decode cX7_keep 28 = .ok (.iload_n 2, 1) := by decide +kernel
theorem dX7_keep_29 : decode cX7_keep 29 = .ok (.iload_n 3, 1) := by decide +kernel
theorem dX7_keep_30 : decode cX7_keep 30 = .ok (.iadd, 1) := by decide +kernel
theorem dX7_keep_31 : decode cX7_keep 31 = .ok (.aload_n 0, 1) := by decide +kernel
theorem dX7_keep_32 : decode cX7_keep 32 = .ok (.getfield 20, 3) := by decide +kernel
theorem dX7_keep_35 : decode cX7_keep 35 = .ok (.iload_n 3, 1) := by decide +kernel
theorem dX7_keep_36 : decode cX7_keep 36 = .ok (.iaload, 1) := by decide +kernel
theorem dX7_keep_37 : decode cX7_keep 37 = .ok (.iastore, 1) := by decide +kernel
theorem dX7_keep_38 : decode cX7_keep 38 = .ok (.iinc 3 1, 3) := by decide +kernel
theorem dX7_keep_41 : decode cX7_keep 41 = .ok (.goto (-23), 3) := by decide +kernel
theorem dX7_keep_44 : decode cX7_keep 44 = .ok (.aload_n 0, 1) := by decide +kernel
theorem dX7_keep_45 : decode cX7_keep 45 = .ok (.getfield 26, 3) := by decide +kernel
theorem dX7_keep_48 : decode cX7_keep 48 = .ok (.iload_n 2, 1) := by decide +kernel
theorem dX7_keep_49 : decode cX7_keep 49 = .ok (.bipush 7, 2) := by decide +kernel
theorem dX7_keep_51 : decode cX7_keep 51 = .ok (.iadd, 1) := by decide +kernel
theorem dX7_keep_52 : decode cX7_keep 52 = .ok (.aload_n 0, 1) := by decide +kernel
theorem dX7_keep_53 : decode cX7_keep 53 = .ok (.getfield 137, 3) := by decide +kernel
theorem dX7_keep_56 : decode cX7_keep 56 = .ok (.iastore, 1) := by decide +kernel
theorem dX7_keep_57 : decode cX7_keep 57 = .ok (.iconst 0, 1) := by decide +kernel
theorem dX7_keep_58 : decode cX7_keep 58 = .ok (.istore_n 3, 1) := by decide +kernel
theorem dX7_keep_59 : decode cX7_keep 59 = .ok (.iload_n 3, 1) := by decide +kernel
theorem dX7_keep_60 : decode cX7_keep 60 = .ok (.bipush 70, 2) := by decide +kernel
theorem dX7_keep_62 : decode cX7_keep 62 = .ok (.if_icmp .ge 28, 3) := by decide +kernel
theorem dX7_keep_65 : decode cX7_keep 65 = .ok (.aload_n 0, 1) := by decide +kernel
theorem dX7_keep_66 : decode cX7_keep 66 = .ok (.getfield 26, 3) := by decide +kernel
theorem dX7_keep_69 : decode cX7_keep 69 = .ok (.iload_n 2, 1) := by decide +kernel
theorem dX7_keep_70 : decode cX7_keep 70 = .ok (.bipush 7, 2) := by decide +kernel
theorem dX7_keep_72 : decode cX7_keep 72 = .ok (.iadd, 1) := by decide +kernel
theorem dX7_keep_73 : decode cX7_keep 73 = .ok (.iconst 1, 1) := by decide +kernel
theorem dX7_keep_74 : decode cX7_keep 74 = .ok (.iadd, 1) := by decide +kernel
theorem dX7_keep_75 : decode cX7_keep 75 = .ok (.iload_n 3, 1) := by decide +kernel
theorem dX7_keep_76 : decode cX7_keep 76 = .ok (.iadd, 1) := by decide +kernel
theorem dX7_keep_77 : decode cX7_keep 77 = .ok (.aload_n 0, 1) := by decide +kernel
theorem dX7_keep_78 : decode cX7_keep 78 = .ok (.getfield 23, 3) := by decide +kernel
theorem dX7_keep_81 : decode cX7_keep 81 = .ok (.iload_n 3, 1) := by decide +kernel
theorem dX7_keep_82 : decode cX7_keep 82 = .ok (.iaload, 1) := by decide +kernel
theorem dX7_keep_83 : decode cX7_keep 83 = .ok (.iastore, 1) := by decide +kernel
theorem dX7_keep_84 : decode cX7_keep 84 = .ok (.iinc 3 1, 3) := by decide +kernel
theorem dX7_keep_87 : decode cX7_keep 87 = .ok (.goto (-28), 3) := by decide +kernel
theorem dX7_keep_90 : decode cX7_keep 90 = .ok (.aload_n 0, 1) := by decide +kernel
theorem dX7_keep_91 : decode cX7_keep 91 = .ok (.getfield 29, 3) := by decide +kernel
theorem dX7_keep_94 : decode cX7_keep 94 = .ok (.iload_n 1, 1) := by decide +kernel
theorem dX7_keep_95 : decode cX7_keep 95 = .ok (.iconst 1, 1) := by decide +kernel
theorem dX7_keep_96 : decode cX7_keep 96 = .ok (.bastore, 1) := by decide +kernel
theorem dX7_keep_97 : decode cX7_keep 97 = .ok (.aload_n 0, 1) := by decide +kernel
theorem dX7_keep_98 : decode cX7_keep 98 = .ok (.getfield 20, 3) := by decide +kernel
theorem dX7_keep_101 : decode cX7_keep 101 = .ok (.iconst 1, 1) := by decide +kernel
theorem dX7_keep_102 : decode cX7_keep 102 = .ok (.iaload, 1) := by decide +kernel
theorem dX7_keep_103 : decode cX7_keep 103 = .ok (.ireturn, 1) := by decide +kernel
theorem dX7_back_0 : decode cX7_back 0 = .ok (.iload_n 1, 1) := by decide +kernel
theorem dX7_back_1 : decode cX7_back 1 = .ok (.iconst 0, 1) := by decide +kernel
theorem dX7_back_2 : decode cX7_back 2 = .ok (.iconst 1, 1) := by decide +kernel
theorem dX7_back_3 : decode cX7_back 3 = .ok (.invokestatic 72, 3) := by decide +kernel
theorem dX7_back_6 : decode cX7_back 6 = .ok (.ifCond .ne 5, 3) := by decide +kernel
theorem dX7_back_9 : decode cX7_back 9 = .ok (.iconst (-1), 1) := by decide +kernel
theorem dX7_back_10 : decode cX7_back 10 = .ok (.ireturn, 1) := by decide +kernel
theorem dX7_back_11 : decode cX7_back 11 = .ok (.aload_n 0, 1) := by decide +kernel
theorem dX7_back_12 : decode cX7_back 12 = .ok (.getfield 29, 3) := by decide +kernel
theorem dX7_back_15 : decode cX7_back 15 = .ok (.iload_n 1, 1) := by decide +kernel
theorem dX7_back_16 : decode cX7_back 16 = .ok (.baload, 1) := by decide +kernel
theorem dX7_back_17 : decode cX7_back 17 = .ok (.ifCond .ne 6, 3) := by decide +kernel
theorem dX7_back_20 : decode cX7_back 20 = .ok (.bipush (-2), 2) := by decide +kernel
theorem dX7_back_22 : decode cX7_back 22 = .ok (.ireturn, 1) := by decide +kernel
theorem dX7_back_23 : decode cX7_back 23 = .ok (.bipush 78, 2) := by decide +kernel
theorem dX7_back_25 : decode cX7_back 25 = .ok (.iload_n 1, 1) := by decide +kernel
theorem dX7_back_26 : decode cX7_back 26 = .ok (.imul, 1) := by decide +kernel
theorem dX7_back_27 : decode cX7_back 27 = .ok (.istore_n 2, 1) := by decide +kernel
theorem dX7_back_28 : decode cX7_back 28 = .ok (.iconst 0, 1) := by decide +kernel
theorem dX7_back_29 : decode cX7_back 29 = .ok (.istore_n 3, 1) := by decide +kernel
theorem dX7_back_30 : decode cX7_back 30 = .ok (.iload_n 3, 1) := by decide +kernel
theorem dX7_back_31 : decode cX7_back 31 = .ok (.bipush 7, 2) := by decide +kernel
theorem dX7_back_33 : decode cX7_back 33 = .ok (.if_icmp .ge 23, 3) := by decide +kernel
theorem dX7_back_36 : decode cX7_back 36 = .ok (.aload_n 0, 1) := by decide +kernel
theorem dX7_back_37 : decode cX7_back 37 = .ok (.getfield 20, 3) := by decide +kernel
theorem dX7_back_40 : decode cX7_back 40 = .ok (.iload_n 3, 1) := by decide +kernel
theorem dX7_back_41 : decode cX7_back 41 = .ok (.aload_n 0, 1) := by decide +kernel
theorem dX7_back_42 : decode cX7_back 42 = .ok (.getfield 26, 3) := by decide +kernel
theorem dX7_back_45 : decode cX7_back 45 = .ok (.iload_n 2, 1) := by decide +kernel
theorem dX7_back_46 : decode cX7_back 46 = .ok (.iload_n 3, 1) := by decide +kernel
theorem dX7_back_47 : decode cX7_back 47 = .ok (.iadd, 1) := by decide +kernel
theorem dX7_back_48 : decode cX7_back 48 = .ok (.iaload, 1) := by decide +kernel
theorem dX7_back_49 : decode cX7_back 49 = .ok (.iastore, 1) := by decide +kernel
theorem dX7_back_50 : decode cX7_back 50 = .ok (.iinc 3 1, 3) := by decide +kernel
theorem dX7_back_53 : decode cX7_back 53 = .ok (.goto (-23), 3) := by decide +kernel
theorem dX7_back_56 : decode cX7_back 56 = .ok (.aload_n 0, 1) := by decide +kernel
theorem dX7_back_57 : decode cX7_back 57 = .ok (.aload_n 0, 1) := by decide +kernel
theorem dX7_back_58 : decode cX7_back 58 = .ok (.getfield 26, 3) := by decide +kernel
theorem dX7_back_61 : decode cX7_back 61 = .ok (.iload_n 2, 1) := by decide +kernel
theorem dX7_back_62 : decode cX7_back 62 = .ok (.bipush 7, 2) := by decide +kernel
theorem dX7_back_64 : decode cX7_back 64 = .ok (.iadd, 1) := by decide +kernel
theorem dX7_back_65 : decode cX7_back 65 = .ok (.iaload, 1) := by decide +kernel
theorem dX7_back_66 : decode cX7_back 66 = .ok (.putfield 137, 3) := by decide +kernel
theorem dX7_back_69 : decode cX7_back 69 = .ok (.iconst 0, 1) := by decide +kernel
theorem dX7_back_70 : decode cX7_back 70 = .ok (.istore_n 3, 1) := by decide +kernel
theorem dX7_back_71 : decode cX7_back 71 = .ok (.iload_n 3, 1) := by decide +kernel
theorem dX7_back_72 : decode cX7_back 72 = .ok (.bipush 70, 2) := by decide +kernel
theorem dX7_back_74 : decode cX7_back 74 = .ok (.if_icmp .ge 28, 3) := by decide +kernel
theorem dX7_back_77 : decode cX7_back 77 = .ok (.aload_n 0, 1) := by decide +kernel
theorem dX7_back_78 : decode cX7_back 78 = .ok (.getfield 23, 3) := by decide +kernel
theorem dX7_back_81 : decode cX7_back 81 = .ok (.iload_n 3, 1) := by decide +kernel
theorem dX7_back_82 : decode cX7_back 82 = .ok (.aload_n 0, 1) := by decide +kernel
theorem dX7_back_83 : decode cX7_back 83 = .ok (.getfield 26, 3) := by decide +kernel
theorem dX7_back_86 : decode cX7_back 86 = .ok (.iload_n 2, 1) := by decide +kernel
theorem dX7_back_87 : decode cX7_back 87 = .ok (.bipush 7, 2) := by decide +kernel
theorem dX7_back_89 : decode cX7_back 89 = .ok (.iadd, 1) := by decide +kernel
theorem dX7_back_90 : decode cX7_back 90 = .ok (.iconst 1, 1) := by decide +kernel
theorem dX7_back_91 : decode cX7_back 91 = .ok (.iadd, 1) := by decide +kernel
theorem dX7_back_92 : decode cX7_back 92 = .ok (.iload_n 3, 1) := by decide +kernel
theorem dX7_back_93 : decode cX7_back 93 = .ok (.iadd, 1) := by decide +kernel
theorem dX7_back_94 : decode cX7_back 94 = .ok (.iaload, 1) := by decide +kernel
theorem dX7_back_95 : decode cX7_back 95 = .ok (.iastore, 1) := by decide +kernel
theorem dX7_back_96 : decode cX7_back 96 = .ok (.iinc 3 1, 3) := by decide +kernel
theorem dX7_back_99 : decode cX7_back 99 = .ok (.goto (-28), 3) := by decide +kernel
theorem dX7_back_102 : decode cX7_back 102 = .ok (.aload_n 0, 1) := by decide +kernel
theorem dX7_back_103 : decode cX7_back 103 = .ok (.getfield 20, 3) := by decide +kernel
theorem dX7_back_106 : decode cX7_back 106 = .ok (.iconst 1, 1) := by decide +kernel
theorem dX7_back_107 : decode cX7_back 107 = .ok (.iaload, 1) := by decide +kernel
theorem dX7_back_108 : decode cX7_back 108 = .ok (.ireturn, 1) := by decide +kernel
theorem dX7_count_0 : decode cX7_count 0 = .ok (.iload_n 1, 1) := by decide +kernel
theorem dX7_count_1 : decode cX7_count 1 = .ok (.tableswitch 78 0 6 #[43, 48, 53, 58, 63, 68, 73], 43) := by decide +kernel
theorem dX7_count_44 : decode cX7_count 44 = .ok (.aload_n 0, 1) := by decide +kernel
theorem dX7_count_45 : decode cX7_count 45 = .ok (.getfield 69, 3) := by decide +kernel
theorem dX7_count_48 : decode cX7_count 48 = .ok (.ireturn, 1) := by decide +kernel
theorem dX7_count_49 : decode cX7_count 49 = .ok (.aload_n 0, 1) := by decide +kernel
theorem dX7_count_50 : decode cX7_count 50 = .ok (.getfield 76, 3) := by decide +kernel
theorem dX7_count_53 : decode cX7_count 53 = .ok (.ireturn, 1) := by decide +kernel
theorem dX7_count_54 : decode cX7_count 54 = .ok (.aload_n 0, 1) := by decide +kernel
theorem dX7_count_55 : decode cX7_count 55 = .ok (.getfield 16, 3) := by decide +kernel
theorem dX7_count_58 : decode cX7_count 58 = .ok (.ireturn, 1) := by decide +kernel
theorem dX7_count_59 : decode cX7_count 59 = .ok (.aload_n 0, 1) := by decide +kernel
theorem dX7_count_60 : decode cX7_count 60 = .ok (.getfield 134, 3) := by decide +kernel
theorem dX7_count_63 : decode cX7_count 63 = .ok (.ireturn, 1) := by decide +kernel
theorem dX7_count_64 : decode cX7_count 64 = .ok (.aload_n 0, 1) := by decide +kernel
theorem dX7_count_65 : decode cX7_count 65 = .ok (.getfield 140, 3) := by decide +kernel
theorem dX7_count_68 : decode cX7_count 68 = .ok (.ireturn, 1) := by decide +kernel
theorem dX7_count_69 : decode cX7_count 69 = .ok (.aload_n 0, 1) := by decide +kernel
theorem dX7_count_70 : decode cX7_count 70 = .ok (.getfield 137, 3) := by decide +kernel
theorem dX7_count_73 : decode cX7_count 73 = .ok (.ireturn, 1) := by decide +kernel
theorem dX7_count_74 : decode cX7_count 74 = .ok (.aload_n 0, 1) := by decide +kernel
theorem dX7_count_75 : decode cX7_count 75 = .ok (.getfield 83, 3) := by decide +kernel
theorem dX7_count_78 : decode cX7_count 78 = .ok (.ireturn, 1) := by decide +kernel
theorem dX7_count_79 : decode cX7_count 79 = .ok (.iconst (-1), 1) := by decide +kernel
theorem dX7_count_80 : decode cX7_count 80 = .ok (.ireturn, 1) := by decide +kernel
theorem dX7_trace_0 : decode cX7_trace 0 = .ok (.aload_n 0, 1) := by decide +kernel
theorem dX7_trace_1 : decode cX7_trace 1 = .ok (.getfield 218, 3) := by decide +kernel
theorem dX7_trace_4 : decode cX7_trace 4 = .ok (.lreturn, 1) := by decide +kernel
end
section
theorem dL_law_0 : decode cL_law 0 = .ok (.new 7, 3) := by decide +kernel
theorem dL_law_3 : decode cL_law 3 = .ok (.dup, 1) := by decide +kernel
theorem dL_law_4 : decode cL_law 4 = .ok (.invokespecial 9, 3) := by decide +kernel
theorem dL_law_7 : decode cL_law 7 = .ok (.astore_n 1, 1) := by decide +kernel
theorem dL_law_8 : decode cL_law 8 = .ok (.new 10, 3) := by decide +kernel
theorem dL_law_11 : decode cL_law 11 = .ok (.dup, 1) := by decide +kernel
theorem dL_law_12 : decode cL_law 12 = .ok (.invokespecial 12, 3) := by decide +kernel
theorem dL_law_15 : decode cL_law 15 = .ok (.astore_n 2, 1) := by decide +kernel
theorem dL_law_16 : decode cL_law 16 = .ok (.iconst 0, 1) := by decide +kernel
theorem dL_law_17 : decode cL_law 17 = .ok (.istore_n 3, 1) := by decide +kernel
theorem dL_law_18 : decode cL_law 18 = .ok (.iload_n 3, 1) := by decide +kernel
theorem dL_law_19 : decode cL_law 19 = .ok (.aload_n 0, 1) := by decide +kernel
theorem dL_law_20 : decode cL_law 20 = .ok (.arraylength, 1) := by decide +kernel
theorem dL_law_21 : decode cL_law 21 = .ok (.iconst 5, 1) := by decide +kernel
theorem dL_law_22 : decode cL_law 22 = .ok (.isub, 1) := by decide +kernel
theorem dL_law_23 : decode cL_law 23 = .ok (.if_icmp .gt 804, 3) := by decide +kernel
theorem dL_law_26 : decode cL_law 26 = .ok (.aload_n 0, 1) := by decide +kernel
theorem dL_law_27 : decode cL_law 27 = .ok (.iload_n 3, 1) := by decide +kernel
theorem dL_law_28 : decode cL_law 28 = .ok (.iaload, 1) := by decide +kernel
theorem dL_law_29 : decode cL_law 29 = .ok (.bipush 31, 2) := by decide +kernel
theorem dL_law_31 : decode cL_law 31 = .ok (.iand, 1) := by decide +kernel
theorem dL_law_32 : decode cL_law 32 = .ok (.tableswitch 789 0 25 #[120, 143, 156, 169, 202, 235, 268, 291, 304, 327, 340, 363, 386, 409, 452, 475, 528, 581, 614, 627, 650, 673, 706, 729, 752, 775], 120) := by decide +kernel
theorem dL_law_152 : decode cL_law 152 = .ok (.aload_n 1, 1) := by decide +kernel
theorem dL_law_153 : decode cL_law 153 = .ok (.aload_n 0, 1) := by decide +kernel
theorem dL_law_154 : decode cL_law 154 = .ok (.iload_n 3, 1) := by decide +kernel
theorem dL_law_155 : decode cL_law 155 = .ok (.iconst 1, 1) := by decide +kernel
theorem dL_law_156 : decode cL_law 156 = .ok (.iadd, 1) := by decide +kernel
theorem dL_law_157 : decode cL_law 157 = .ok (.iaload, 1) := by decide +kernel
theorem dL_law_158 : decode cL_law 158 = .ok (.invokevirtual 13, 3) := by decide +kernel
theorem dL_law_161 : decode cL_law 161 = .ok (.aload_n 2, 1) := by decide +kernel
theorem dL_law_162 : decode cL_law 162 = .ok (.aload_n 0, 1) := by decide +kernel
theorem dL_law_163 : decode cL_law 163 = .ok (.iload_n 3, 1) := by decide +kernel
theorem dL_law_164 : decode cL_law 164 = .ok (.iconst 1, 1) := by decide +kernel
theorem dL_law_165 : decode cL_law 165 = .ok (.iadd, 1) := by decide +kernel
theorem dL_law_166 : decode cL_law 166 = .ok (.iaload, 1) := by decide +kernel
theorem dL_law_167 : decode cL_law 167 = .ok (.invokevirtual 17, 3) := by decide +kernel
theorem dL_law_170 : decode cL_law 170 = .ok (.if_icmp .eq 651, 3) := by decide +kernel
theorem dL_law_173 : decode cL_law 173 = .ok (.iconst 0, 1) := by decide +kernel
theorem dL_law_174 : decode cL_law 174 = .ok (.ireturn, 1) := by decide +kernel
theorem dL_law_175 : decode cL_law 175 = .ok (.aload_n 1, 1) := by decide +kernel
theorem dL_law_176 : decode cL_law 176 = .ok (.invokevirtual 18, 3) := by decide +kernel
theorem dL_law_179 : decode cL_law 179 = .ok (.aload_n 2, 1) := by decide +kernel
theorem dL_law_180 : decode cL_law 180 = .ok (.invokevirtual 22, 3) := by decide +kernel
theorem dL_law_183 : decode cL_law 183 = .ok (.if_icmp .eq 638, 3) := by decide +kernel
theorem dL_law_186 : decode cL_law 186 = .ok (.iconst 0, 1) := by decide +kernel
theorem dL_law_187 : decode cL_law 187 = .ok (.ireturn, 1) := by decide +kernel
theorem dL_law_188 : decode cL_law 188 = .ok (.aload_n 1, 1) := by decide +kernel
theorem dL_law_189 : decode cL_law 189 = .ok (.invokevirtual 23, 3) := by decide +kernel
theorem dL_law_192 : decode cL_law 192 = .ok (.aload_n 2, 1) := by decide +kernel
theorem dL_law_193 : decode cL_law 193 = .ok (.invokevirtual 26, 3) := by decide +kernel
theorem dL_law_196 : decode cL_law 196 = .ok (.if_icmp .eq 625, 3) := by decide +kernel
theorem dL_law_199 : decode cL_law 199 = .ok (.iconst 0, 1) := by decide +kernel
theorem dL_law_200 : decode cL_law 200 = .ok (.ireturn, 1) := by decide +kernel
theorem dL_law_201 : decode cL_law 201 = .ok (.aload_n 1, 1) := by decide +kernel
theorem dL_law_202 : decode cL_law 202 = .ok (.aload_n 0, 1) := by decide +kernel
theorem dL_law_203 : decode cL_law 203 = .ok (.iload_n 3, 1) := by decide +kernel
theorem dL_law_204 : decode cL_law 204 = .ok (.iconst 1, 1) := by decide +kernel
theorem dL_law_205 : decode cL_law 205 = .ok (.iadd, 1) := by decide +kernel
theorem dL_law_206 : decode cL_law 206 = .ok (.iaload, 1) := by decide +kernel
theorem dL_law_207 : decode cL_law 207 = .ok (.aload_n 0, 1) := by decide +kernel
theorem dL_law_208 : decode cL_law 208 = .ok (.iload_n 3, 1) := by decide +kernel
theorem dL_law_209 : decode cL_law 209 = .ok (.iconst 2, 1) := by decide +kernel
theorem dL_law_210 : decode cL_law 210 = .ok (.iadd, 1) := by decide +kernel
theorem dL_law_211 : decode cL_law 211 = .ok (.iaload, 1) := by decide +kernel
theorem dL_law_212 : decode cL_law 212 = .ok (.invokevirtual 27, 3) := by decide +kernel
theorem dL_law_215 : decode cL_law 215 = .ok (.aload_n 2, 1) := by decide +kernel
theorem dL_law_216 : decode cL_law 216 = .ok (.aload_n 0, 1) := by decide +kernel
theorem dL_law_217 : decode cL_law 217 = .ok (.iload_n 3, 1) := by decide +kernel
theorem dL_law_218 : decode cL_law 218 = .ok (.iconst 1, 1) := by decide +kernel
theorem dL_law_219 : decode cL_law 219 = .ok (.iadd, 1) := by decide +kernel
theorem dL_law_220 : decode cL_law 220 = .ok (.iaload, 1) := by decide +kernel
theorem dL_law_221 : decode cL_law 221 = .ok (.aload_n 0, 1) := by decide +kernel
theorem dL_law_222 : decode cL_law 222 = .ok (.iload_n 3, 1) := by decide +kernel
theorem dL_law_223 : decode cL_law 223 = .ok (.iconst 2, 1) := by decide +kernel
theorem dL_law_224 : decode cL_law 224 = .ok (.iadd, 1) := by decide +kernel
theorem dL_law_225 : decode cL_law 225 = .ok (.iaload, 1) := by decide +kernel
theorem dL_law_226 : decode cL_law 226 = .ok (.invokevirtual 31, 3) := by decide +kernel
theorem dL_law_229 : decode cL_law 229 = .ok (.if_icmp .eq 592, 3) := by decide +kernel
theorem dL_law_232 : decode cL_law 232 = .ok (.iconst 0, 1) := by decide +kernel
theorem dL_law_233 : decode cL_law 233 = .ok (.ireturn, 1) := by decide +kernel
theorem dL_law_234 : decode cL_law 234 = .ok (.aload_n 1, 1) := by decide +kernel
theorem dL_law_235 : decode cL_law 235 = .ok (.aload_n 0, 1) := by decide +kernel
theorem dL_law_236 : decode cL_law 236 = .ok (.iload_n 3, 1) := by decide +kernel
theorem dL_law_237 : decode cL_law 237 = .ok (.iconst 1, 1) := by decide +kernel
theorem dL_law_238 : decode cL_law 238 = .ok (.iadd, 1) := by decide +kernel
theorem dL_law_239 : decode cL_law 239 = .ok (.iaload, 1) := by decide +kernel
theorem dL_law_240 : decode cL_law 240 = .ok (.aload_n 0, 1) := by decide +kernel
theorem dL_law_241 : decode cL_law 241 = .ok (.iload_n 3, 1) := by decide +kernel
theorem dL_law_242 : decode cL_law 242 = .ok (.iconst 2, 1) := by decide +kernel
theorem dL_law_243 : decode cL_law 243 = .ok (.iadd, 1) := by decide +kernel
theorem dL_law_244 : decode cL_law 244 = .ok (.iaload, 1) := by decide +kernel
theorem dL_law_245 : decode cL_law 245 = .ok (.invokevirtual 32, 3) := by decide +kernel
theorem dL_law_248 : decode cL_law 248 = .ok (.aload_n 2, 1) := by decide +kernel
theorem dL_law_249 : decode cL_law 249 = .ok (.aload_n 0, 1) := by decide +kernel
theorem dL_law_250 : decode cL_law 250 = .ok (.iload_n 3, 1) := by decide +kernel
theorem dL_law_251 : decode cL_law 251 = .ok (.iconst 1, 1) := by decide +kernel
theorem dL_law_252 : decode cL_law 252 = .ok (.iadd, 1) := by decide +kernel
theorem dL_law_253 : decode cL_law 253 = .ok (.iaload, 1) := by decide +kernel
theorem dL_law_254 : decode cL_law 254 = .ok (.aload_n 0, 1) := by decide +kernel
theorem dL_law_255 : decode cL_law 255 = .ok (.iload_n 3, 1) := by decide +kernel
theorem dL_law_256 : decode cL_law 256 = .ok (.iconst 2, 1) := by decide +kernel
theorem dL_law_257 : decode cL_law 257 = .ok (.iadd, 1) := by decide +kernel
theorem dL_law_258 : decode cL_law 258 = .ok (.iaload, 1) := by decide +kernel
theorem dL_law_259 : decode cL_law 259 = .ok (.invokevirtual 35, 3) := by decide +kernel
theorem dL_law_262 : decode cL_law 262 = .ok (.if_icmp .eq 559, 3) := by decide +kernel
theorem dL_law_265 : decode cL_law 265 = .ok (.iconst 0, 1) := by decide +kernel
theorem dL_law_266 : decode cL_law 266 = .ok (.ireturn, 1) := by decide +kernel
theorem dL_law_267 : decode cL_law 267 = .ok (.aload_n 1, 1) := by decide +kernel
theorem dL_law_268 : decode cL_law 268 = .ok (.aload_n 0, 1) := by decide +kernel
theorem dL_law_269 : decode cL_law 269 = .ok (.iload_n 3, 1) := by decide +kernel
theorem dL_law_270 : decode cL_law 270 = .ok (.iconst 1, 1) := by decide +kernel
theorem dL_law_271 : decode cL_law 271 = .ok (.iadd, 1) := by decide +kernel
theorem dL_law_272 : decode cL_law 272 = .ok (.iaload, 1) := by decide +kernel
theorem dL_law_273 : decode cL_law 273 = .ok (.aload_n 0, 1) := by decide +kernel
theorem dL_law_274 : decode cL_law 274 = .ok (.iload_n 3, 1) := by decide +kernel
theorem dL_law_275 : decode cL_law 275 = .ok (.iconst 2, 1) := by decide +kernel
theorem dL_law_276 : decode cL_law 276 = .ok (.iadd, 1) := by decide +kernel
theorem dL_law_277 : decode cL_law 277 = .ok (.iaload, 1) := by decide +kernel
theorem dL_law_278 : decode cL_law 278 = .ok (.invokevirtual 36, 3) := by decide +kernel
theorem dL_law_281 : decode cL_law 281 = .ok (.aload_n 2, 1) := by decide +kernel
theorem dL_law_282 : decode cL_law 282 = .ok (.aload_n 0, 1) := by decide +kernel
theorem dL_law_283 : decode cL_law 283 = .ok (.iload_n 3, 1) := by decide +kernel
theorem dL_law_284 : decode cL_law 284 = .ok (.iconst 1, 1) := by decide +kernel
theorem dL_law_285 : decode cL_law 285 = .ok (.iadd, 1) := by decide +kernel
theorem dL_law_286 : decode cL_law 286 = .ok (.iaload, 1) := by decide +kernel
theorem dL_law_287 : decode cL_law 287 = .ok (.aload_n 0, 1) := by decide +kernel
theorem dL_law_288 : decode cL_law 288 = .ok (.iload_n 3, 1) := by decide +kernel
theorem dL_law_289 : decode cL_law 289 = .ok (.iconst 2, 1) := by decide +kernel
theorem dL_law_290 : decode cL_law 290 = .ok (.iadd, 1) := by decide +kernel
theorem dL_law_291 : decode cL_law 291 = .ok (.iaload, 1) := by decide +kernel
theorem dL_law_292 : decode cL_law 292 = .ok (.invokevirtual 39, 3) := by decide +kernel
theorem dL_law_295 : decode cL_law 295 = .ok (.if_icmp .eq 526, 3) := by decide +kernel
theorem dL_law_298 : decode cL_law 298 = .ok (.iconst 0, 1) := by decide +kernel
theorem dL_law_299 : decode cL_law 299 = .ok (.ireturn, 1) := by decide +kernel
theorem dL_law_300 : decode cL_law 300 = .ok (.aload_n 1, 1) := by decide +kernel
theorem dL_law_301 : decode cL_law 301 = .ok (.aload_n 0, 1) := by decide +kernel
theorem dL_law_302 : decode cL_law 302 = .ok (.iload_n 3, 1) := by decide +kernel
theorem dL_law_303 : decode cL_law 303 = .ok (.iconst 1, 1) := by decide +kernel
theorem dL_law_304 : decode cL_law 304 = .ok (.iadd, 1) := by decide +kernel
theorem dL_law_305 : decode cL_law 305 = .ok (.iaload, 1) := by decide +kernel
theorem dL_law_306 : decode cL_law 306 = .ok (.invokevirtual 40, 3) := by decide +kernel
theorem dL_law_309 : decode cL_law 309 = .ok (.aload_n 2, 1) := by decide +kernel
theorem dL_law_310 : decode cL_law 310 = .ok (.aload_n 0, 1) := by decide +kernel
theorem dL_law_311 : decode cL_law 311 = .ok (.iload_n 3, 1) := by decide +kernel
theorem dL_law_312 : decode cL_law 312 = .ok (.iconst 1, 1) := by decide +kernel
theorem dL_law_313 : decode cL_law 313 = .ok (.iadd, 1) := by decide +kernel
theorem dL_law_314 : decode cL_law 314 = .ok (.iaload, 1) := by decide +kernel
theorem dL_law_315 : decode cL_law 315 = .ok (.invokevirtual 43, 3) := by decide +kernel
theorem dL_law_318 : decode cL_law 318 = .ok (.if_icmp .eq 503, 3) := by decide +kernel
theorem dL_law_321 : decode cL_law 321 = .ok (.iconst 0, 1) := by decide +kernel
theorem dL_law_322 : decode cL_law 322 = .ok (.ireturn, 1) := by decide +kernel
theorem dL_law_323 : decode cL_law 323 = .ok (.aload_n 1, 1) := by decide +kernel
theorem dL_law_324 : decode cL_law 324 = .ok (.invokevirtual 44, 3) := by decide +kernel
theorem dL_law_327 : decode cL_law 327 = .ok (.aload_n 2, 1) := by decide +kernel
theorem dL_law_328 : decode cL_law 328 = .ok (.invokevirtual 47, 3) := by decide +kernel
theorem dL_law_331 : decode cL_law 331 = .ok (.if_icmp .eq 490, 3) := by decide +kernel
theorem dL_law_334 : decode cL_law 334 = .ok (.iconst 0, 1) := by decide +kernel
theorem dL_law_335 : decode cL_law 335 = .ok (.ireturn, 1) := by decide +kernel
theorem dL_law_336 : decode cL_law 336 = .ok (.aload_n 1, 1) := by decide +kernel
theorem dL_law_337 : decode cL_law 337 = .ok (.aload_n 0, 1) := by decide +kernel
theorem dL_law_338 : decode cL_law 338 = .ok (.iload_n 3, 1) := by decide +kernel
theorem dL_law_339 : decode cL_law 339 = .ok (.iconst 1, 1) := by decide +kernel
theorem dL_law_340 : decode cL_law 340 = .ok (.iadd, 1) := by decide +kernel
theorem dL_law_341 : decode cL_law 341 = .ok (.iaload, 1) := by decide +kernel
theorem dL_law_342 : decode cL_law 342 = .ok (.invokevirtual 48, 3) := by decide +kernel
theorem dL_law_345 : decode cL_law 345 = .ok (.aload_n 2, 1) := by decide +kernel
theorem dL_law_346 : decode cL_law 346 = .ok (.aload_n 0, 1) := by decide +kernel
theorem dL_law_347 : decode cL_law 347 = .ok (.iload_n 3, 1) := by decide +kernel
theorem dL_law_348 : decode cL_law 348 = .ok (.iconst 1, 1) := by decide +kernel
theorem dL_law_349 : decode cL_law 349 = .ok (.iadd, 1) := by decide +kernel
theorem dL_law_350 : decode cL_law 350 = .ok (.iaload, 1) := by decide +kernel
theorem dL_law_351 : decode cL_law 351 = .ok (.invokevirtual 51, 3) := by decide +kernel
theorem dL_law_354 : decode cL_law 354 = .ok (.if_icmp .eq 467, 3) := by decide +kernel
theorem dL_law_357 : decode cL_law 357 = .ok (.iconst 0, 1) := by decide +kernel
theorem dL_law_358 : decode cL_law 358 = .ok (.ireturn, 1) := by decide +kernel
theorem dL_law_359 : decode cL_law 359 = .ok (.aload_n 1, 1) := by decide +kernel
theorem dL_law_360 : decode cL_law 360 = .ok (.invokevirtual 52, 3) := by decide +kernel
theorem dL_law_363 : decode cL_law 363 = .ok (.aload_n 2, 1) := by decide +kernel
theorem dL_law_364 : decode cL_law 364 = .ok (.invokevirtual 55, 3) := by decide +kernel
theorem dL_law_367 : decode cL_law 367 = .ok (.if_icmp .eq 454, 3) := by decide +kernel
theorem dL_law_370 : decode cL_law 370 = .ok (.iconst 0, 1) := by decide +kernel
theorem dL_law_371 : decode cL_law 371 = .ok (.ireturn, 1) := by decide +kernel
theorem dL_law_372 : decode cL_law 372 = .ok (.aload_n 1, 1) := by decide +kernel
theorem dL_law_373 : decode cL_law 373 = .ok (.aload_n 0, 1) := by decide +kernel
theorem dL_law_374 : decode cL_law 374 = .ok (.iload_n 3, 1) := by decide +kernel
theorem dL_law_375 : decode cL_law 375 = .ok (.iconst 1, 1) := by decide +kernel
theorem dL_law_376 : decode cL_law 376 = .ok (.iadd, 1) := by decide +kernel
theorem dL_law_377 : decode cL_law 377 = .ok (.iaload, 1) := by decide +kernel
theorem dL_law_378 : decode cL_law 378 = .ok (.invokevirtual 56, 3) := by decide +kernel
theorem dL_law_381 : decode cL_law 381 = .ok (.aload_n 2, 1) := by decide +kernel
theorem dL_law_382 : decode cL_law 382 = .ok (.aload_n 0, 1) := by decide +kernel
theorem dL_law_383 : decode cL_law 383 = .ok (.iload_n 3, 1) := by decide +kernel
theorem dL_law_384 : decode cL_law 384 = .ok (.iconst 1, 1) := by decide +kernel
theorem dL_law_385 : decode cL_law 385 = .ok (.iadd, 1) := by decide +kernel
theorem dL_law_386 : decode cL_law 386 = .ok (.iaload, 1) := by decide +kernel
theorem dL_law_387 : decode cL_law 387 = .ok (.invokevirtual 59, 3) := by decide +kernel
theorem dL_law_390 : decode cL_law 390 = .ok (.if_icmp .eq 431, 3) := by decide +kernel
theorem dL_law_393 : decode cL_law 393 = .ok (.iconst 0, 1) := by decide +kernel
theorem dL_law_394 : decode cL_law 394 = .ok (.ireturn, 1) := by decide +kernel
theorem dL_law_395 : decode cL_law 395 = .ok (.aload_n 1, 1) := by decide +kernel
theorem dL_law_396 : decode cL_law 396 = .ok (.aload_n 0, 1) := by decide +kernel
theorem dL_law_397 : decode cL_law 397 = .ok (.iload_n 3, 1) := by decide +kernel
theorem dL_law_398 : decode cL_law 398 = .ok (.iconst 1, 1) := by decide +kernel
theorem dL_law_399 : decode cL_law 399 = .ok (.iadd, 1) := by decide +kernel
theorem dL_law_400 : decode cL_law 400 = .ok (.iaload, 1) := by decide +kernel
theorem dL_law_401 : decode cL_law 401 = .ok (.invokevirtual 60, 3) := by decide +kernel
theorem dL_law_404 : decode cL_law 404 = .ok (.aload_n 2, 1) := by decide +kernel
theorem dL_law_405 : decode cL_law 405 = .ok (.aload_n 0, 1) := by decide +kernel
theorem dL_law_406 : decode cL_law 406 = .ok (.iload_n 3, 1) := by decide +kernel
theorem dL_law_407 : decode cL_law 407 = .ok (.iconst 1, 1) := by decide +kernel
theorem dL_law_408 : decode cL_law 408 = .ok (.iadd, 1) := by decide +kernel
theorem dL_law_409 : decode cL_law 409 = .ok (.iaload, 1) := by decide +kernel
theorem dL_law_410 : decode cL_law 410 = .ok (.invokevirtual 63, 3) := by decide +kernel
theorem dL_law_413 : decode cL_law 413 = .ok (.if_icmp .eq 408, 3) := by decide +kernel
theorem dL_law_416 : decode cL_law 416 = .ok (.iconst 0, 1) := by decide +kernel
theorem dL_law_417 : decode cL_law 417 = .ok (.ireturn, 1) := by decide +kernel
theorem dL_law_418 : decode cL_law 418 = .ok (.aload_n 1, 1) := by decide +kernel
theorem dL_law_419 : decode cL_law 419 = .ok (.aload_n 0, 1) := by decide +kernel
theorem dL_law_420 : decode cL_law 420 = .ok (.iload_n 3, 1) := by decide +kernel
theorem dL_law_421 : decode cL_law 421 = .ok (.iconst 1, 1) := by decide +kernel
theorem dL_law_422 : decode cL_law 422 = .ok (.iadd, 1) := by decide +kernel
theorem dL_law_423 : decode cL_law 423 = .ok (.iaload, 1) := by decide +kernel
theorem dL_law_424 : decode cL_law 424 = .ok (.invokevirtual 64, 3) := by decide +kernel
theorem dL_law_427 : decode cL_law 427 = .ok (.aload_n 2, 1) := by decide +kernel
theorem dL_law_428 : decode cL_law 428 = .ok (.aload_n 0, 1) := by decide +kernel
theorem dL_law_429 : decode cL_law 429 = .ok (.iload_n 3, 1) := by decide +kernel
theorem dL_law_430 : decode cL_law 430 = .ok (.iconst 1, 1) := by decide +kernel
theorem dL_law_431 : decode cL_law 431 = .ok (.iadd, 1) := by decide +kernel
theorem dL_law_432 : decode cL_law 432 = .ok (.iaload, 1) := by decide +kernel
theorem dL_law_433 : decode cL_law 433 = .ok (.invokevirtual 67, 3) := by decide +kernel
theorem dL_law_436 : decode cL_law 436 = .ok (.if_icmp .eq 385, 3) := by decide +kernel
theorem dL_law_439 : decode cL_law 439 = .ok (.iconst 0, 1) := by decide +kernel
theorem dL_law_440 : decode cL_law 440 = .ok (.ireturn, 1) := by decide +kernel
theorem dL_law_441 : decode cL_law 441 = .ok (.aload_n 1, 1) := by decide +kernel
theorem dL_law_442 : decode cL_law 442 = .ok (.aload_n 0, 1) := by decide +kernel
theorem dL_law_443 : decode cL_law 443 = .ok (.iload_n 3, 1) := by decide +kernel
theorem dL_law_444 : decode cL_law 444 = .ok (.iconst 1, 1) := by decide +kernel
theorem dL_law_445 : decode cL_law 445 = .ok (.iadd, 1) := by decide +kernel
theorem dL_law_446 : decode cL_law 446 = .ok (.iaload, 1) := by decide +kernel
theorem dL_law_447 : decode cL_law 447 = .ok (.aload_n 0, 1) := by decide +kernel
theorem dL_law_448 : decode cL_law 448 = .ok (.iload_n 3, 1) := by decide +kernel
theorem dL_law_449 : decode cL_law 449 = .ok (.iconst 2, 1) := by decide +kernel
theorem dL_law_450 : decode cL_law 450 = .ok (.iadd, 1) := by decide +kernel
theorem dL_law_451 : decode cL_law 451 = .ok (.iaload, 1) := by decide +kernel
theorem dL_law_452 : decode cL_law 452 = .ok (.aload_n 0, 1) := by decide +kernel
theorem dL_law_453 : decode cL_law 453 = .ok (.iload_n 3, 1) := by decide +kernel
theorem dL_law_454 : decode cL_law 454 = .ok (.iconst 3, 1) := by decide +kernel
theorem dL_law_455 : decode cL_law 455 = .ok (.iadd, 1) := by decide +kernel
theorem dL_law_456 : decode cL_law 456 = .ok (.iaload, 1) := by decide +kernel
theorem dL_law_457 : decode cL_law 457 = .ok (.invokevirtual 68, 3) := by decide +kernel
theorem dL_law_460 : decode cL_law 460 = .ok (.aload_n 2, 1) := by decide +kernel
theorem dL_law_461 : decode cL_law 461 = .ok (.aload_n 0, 1) := by decide +kernel
theorem dL_law_462 : decode cL_law 462 = .ok (.iload_n 3, 1) := by decide +kernel
theorem dL_law_463 : decode cL_law 463 = .ok (.iconst 1, 1) := by decide +kernel
theorem dL_law_464 : decode cL_law 464 = .ok (.iadd, 1) := by decide +kernel
theorem dL_law_465 : decode cL_law 465 = .ok (.iaload, 1) := by decide +kernel
theorem dL_law_466 : decode cL_law 466 = .ok (.aload_n 0, 1) := by decide +kernel
theorem dL_law_467 : decode cL_law 467 = .ok (.iload_n 3, 1) := by decide +kernel
theorem dL_law_468 : decode cL_law 468 = .ok (.iconst 2, 1) := by decide +kernel
theorem dL_law_469 : decode cL_law 469 = .ok (.iadd, 1) := by decide +kernel
theorem dL_law_470 : decode cL_law 470 = .ok (.iaload, 1) := by decide +kernel
theorem dL_law_471 : decode cL_law 471 = .ok (.aload_n 0, 1) := by decide +kernel
theorem dL_law_472 : decode cL_law 472 = .ok (.iload_n 3, 1) := by decide +kernel
theorem dL_law_473 : decode cL_law 473 = .ok (.iconst 3, 1) := by decide +kernel
theorem dL_law_474 : decode cL_law 474 = .ok (.iadd, 1) := by decide +kernel
theorem dL_law_475 : decode cL_law 475 = .ok (.iaload, 1) := by decide +kernel
theorem dL_law_476 : decode cL_law 476 = .ok (.invokevirtual 72, 3) := by decide +kernel
theorem dL_law_479 : decode cL_law 479 = .ok (.if_icmp .eq 342, 3) := by decide +kernel
theorem dL_law_482 : decode cL_law 482 = .ok (.iconst 0, 1) := by decide +kernel
theorem dL_law_483 : decode cL_law 483 = .ok (.ireturn, 1) := by decide +kernel
theorem dL_law_484 : decode cL_law 484 = .ok (.aload_n 1, 1) := by decide +kernel
theorem dL_law_485 : decode cL_law 485 = .ok (.aload_n 0, 1) := by decide +kernel
theorem dL_law_486 : decode cL_law 486 = .ok (.iload_n 3, 1) := by decide +kernel
theorem dL_law_487 : decode cL_law 487 = .ok (.iconst 1, 1) := by decide +kernel
theorem dL_law_488 : decode cL_law 488 = .ok (.iadd, 1) := by decide +kernel
theorem dL_law_489 : decode cL_law 489 = .ok (.iaload, 1) := by decide +kernel
theorem dL_law_490 : decode cL_law 490 = .ok (.invokevirtual 73, 3) := by decide +kernel
theorem dL_law_493 : decode cL_law 493 = .ok (.aload_n 2, 1) := by decide +kernel
theorem dL_law_494 : decode cL_law 494 = .ok (.aload_n 0, 1) := by decide +kernel
theorem dL_law_495 : decode cL_law 495 = .ok (.iload_n 3, 1) := by decide +kernel
theorem dL_law_496 : decode cL_law 496 = .ok (.iconst 1, 1) := by decide +kernel
theorem dL_law_497 : decode cL_law 497 = .ok (.iadd, 1) := by decide +kernel
theorem dL_law_498 : decode cL_law 498 = .ok (.iaload, 1) := by decide +kernel
theorem dL_law_499 : decode cL_law 499 = .ok (.invokevirtual 76, 3) := by decide +kernel
theorem dL_law_502 : decode cL_law 502 = .ok (.if_icmp .eq 319, 3) := by decide +kernel
theorem dL_law_505 : decode cL_law 505 = .ok (.iconst 0, 1) := by decide +kernel
theorem dL_law_506 : decode cL_law 506 = .ok (.ireturn, 1) := by decide +kernel
theorem dL_law_507 : decode cL_law 507 = .ok (.aload_n 1, 1) := by decide +kernel
theorem dL_law_508 : decode cL_law 508 = .ok (.aload_n 0, 1) := by decide +kernel
theorem dL_law_509 : decode cL_law 509 = .ok (.iload_n 3, 1) := by decide +kernel
theorem dL_law_510 : decode cL_law 510 = .ok (.iconst 1, 1) := by decide +kernel
theorem dL_law_511 : decode cL_law 511 = .ok (.iadd, 1) := by decide +kernel
theorem dL_law_512 : decode cL_law 512 = .ok (.iaload, 1) := by decide +kernel
theorem dL_law_513 : decode cL_law 513 = .ok (.aload_n 0, 1) := by decide +kernel
theorem dL_law_514 : decode cL_law 514 = .ok (.iload_n 3, 1) := by decide +kernel
theorem dL_law_515 : decode cL_law 515 = .ok (.iconst 2, 1) := by decide +kernel
theorem dL_law_516 : decode cL_law 516 = .ok (.iadd, 1) := by decide +kernel
theorem dL_law_517 : decode cL_law 517 = .ok (.iaload, 1) := by decide +kernel
theorem dL_law_518 : decode cL_law 518 = .ok (.aload_n 0, 1) := by decide +kernel
theorem dL_law_519 : decode cL_law 519 = .ok (.iload_n 3, 1) := by decide +kernel
theorem dL_law_520 : decode cL_law 520 = .ok (.iconst 3, 1) := by decide +kernel
theorem dL_law_521 : decode cL_law 521 = .ok (.iadd, 1) := by decide +kernel
theorem dL_law_522 : decode cL_law 522 = .ok (.iaload, 1) := by decide +kernel
theorem dL_law_523 : decode cL_law 523 = .ok (.aload_n 0, 1) := by decide +kernel
theorem dL_law_524 : decode cL_law 524 = .ok (.iload_n 3, 1) := by decide +kernel
theorem dL_law_525 : decode cL_law 525 = .ok (.iconst 4, 1) := by decide +kernel
theorem dL_law_526 : decode cL_law 526 = .ok (.iadd, 1) := by decide +kernel
theorem dL_law_527 : decode cL_law 527 = .ok (.iaload, 1) := by decide +kernel
theorem dL_law_528 : decode cL_law 528 = .ok (.invokevirtual 77, 3) := by decide +kernel
theorem dL_law_531 : decode cL_law 531 = .ok (.aload_n 2, 1) := by decide +kernel
theorem dL_law_532 : decode cL_law 532 = .ok (.aload_n 0, 1) := by decide +kernel
theorem dL_law_533 : decode cL_law 533 = .ok (.iload_n 3, 1) := by decide +kernel
theorem dL_law_534 : decode cL_law 534 = .ok (.iconst 1, 1) := by decide +kernel
theorem dL_law_535 : decode cL_law 535 = .ok (.iadd, 1) := by decide +kernel
theorem dL_law_536 : decode cL_law 536 = .ok (.iaload, 1) := by decide +kernel
theorem dL_law_537 : decode cL_law 537 = .ok (.aload_n 0, 1) := by decide +kernel
theorem dL_law_538 : decode cL_law 538 = .ok (.iload_n 3, 1) := by decide +kernel
theorem dL_law_539 : decode cL_law 539 = .ok (.iconst 2, 1) := by decide +kernel
theorem dL_law_540 : decode cL_law 540 = .ok (.iadd, 1) := by decide +kernel
theorem dL_law_541 : decode cL_law 541 = .ok (.iaload, 1) := by decide +kernel
theorem dL_law_542 : decode cL_law 542 = .ok (.aload_n 0, 1) := by decide +kernel
theorem dL_law_543 : decode cL_law 543 = .ok (.iload_n 3, 1) := by decide +kernel
theorem dL_law_544 : decode cL_law 544 = .ok (.iconst 3, 1) := by decide +kernel
theorem dL_law_545 : decode cL_law 545 = .ok (.iadd, 1) := by decide +kernel
theorem dL_law_546 : decode cL_law 546 = .ok (.iaload, 1) := by decide +kernel
theorem dL_law_547 : decode cL_law 547 = .ok (.aload_n 0, 1) := by decide +kernel
theorem dL_law_548 : decode cL_law 548 = .ok (.iload_n 3, 1) := by decide +kernel
theorem dL_law_549 : decode cL_law 549 = .ok (.iconst 4, 1) := by decide +kernel
theorem dL_law_550 : decode cL_law 550 = .ok (.iadd, 1) := by decide +kernel
theorem dL_law_551 : decode cL_law 551 = .ok (.iaload, 1) := by decide +kernel
theorem dL_law_552 : decode cL_law 552 = .ok (.invokevirtual 81, 3) := by decide +kernel
theorem dL_law_555 : decode cL_law 555 = .ok (.if_icmp .eq 266, 3) := by decide +kernel
theorem dL_law_558 : decode cL_law 558 = .ok (.iconst 0, 1) := by decide +kernel
theorem dL_law_559 : decode cL_law 559 = .ok (.ireturn, 1) := by decide +kernel
theorem dL_law_560 : decode cL_law 560 = .ok (.aload_n 1, 1) := by decide +kernel
theorem dL_law_561 : decode cL_law 561 = .ok (.aload_n 0, 1) := by decide +kernel
theorem dL_law_562 : decode cL_law 562 = .ok (.iload_n 3, 1) := by decide +kernel
theorem dL_law_563 : decode cL_law 563 = .ok (.iconst 1, 1) := by decide +kernel
theorem dL_law_564 : decode cL_law 564 = .ok (.iadd, 1) := by decide +kernel
theorem dL_law_565 : decode cL_law 565 = .ok (.iaload, 1) := by decide +kernel
theorem dL_law_566 : decode cL_law 566 = .ok (.aload_n 0, 1) := by decide +kernel
theorem dL_law_567 : decode cL_law 567 = .ok (.iload_n 3, 1) := by decide +kernel
theorem dL_law_568 : decode cL_law 568 = .ok (.iconst 2, 1) := by decide +kernel
theorem dL_law_569 : decode cL_law 569 = .ok (.iadd, 1) := by decide +kernel
theorem dL_law_570 : decode cL_law 570 = .ok (.iaload, 1) := by decide +kernel
theorem dL_law_571 : decode cL_law 571 = .ok (.aload_n 0, 1) := by decide +kernel
theorem dL_law_572 : decode cL_law 572 = .ok (.iload_n 3, 1) := by decide +kernel
theorem dL_law_573 : decode cL_law 573 = .ok (.iconst 3, 1) := by decide +kernel
theorem dL_law_574 : decode cL_law 574 = .ok (.iadd, 1) := by decide +kernel
theorem dL_law_575 : decode cL_law 575 = .ok (.iaload, 1) := by decide +kernel
theorem dL_law_576 : decode cL_law 576 = .ok (.aload_n 0, 1) := by decide +kernel
theorem dL_law_577 : decode cL_law 577 = .ok (.iload_n 3, 1) := by decide +kernel
theorem dL_law_578 : decode cL_law 578 = .ok (.iconst 4, 1) := by decide +kernel
theorem dL_law_579 : decode cL_law 579 = .ok (.iadd, 1) := by decide +kernel
theorem dL_law_580 : decode cL_law 580 = .ok (.iaload, 1) := by decide +kernel
theorem dL_law_581 : decode cL_law 581 = .ok (.invokevirtual 82, 3) := by decide +kernel
theorem dL_law_584 : decode cL_law 584 = .ok (.aload_n 2, 1) := by decide +kernel
theorem dL_law_585 : decode cL_law 585 = .ok (.aload_n 0, 1) := by decide +kernel
theorem dL_law_586 : decode cL_law 586 = .ok (.iload_n 3, 1) := by decide +kernel
theorem dL_law_587 : decode cL_law 587 = .ok (.iconst 1, 1) := by decide +kernel
theorem dL_law_588 : decode cL_law 588 = .ok (.iadd, 1) := by decide +kernel
theorem dL_law_589 : decode cL_law 589 = .ok (.iaload, 1) := by decide +kernel
theorem dL_law_590 : decode cL_law 590 = .ok (.aload_n 0, 1) := by decide +kernel
theorem dL_law_591 : decode cL_law 591 = .ok (.iload_n 3, 1) := by decide +kernel
theorem dL_law_592 : decode cL_law 592 = .ok (.iconst 2, 1) := by decide +kernel
theorem dL_law_593 : decode cL_law 593 = .ok (.iadd, 1) := by decide +kernel
theorem dL_law_594 : decode cL_law 594 = .ok (.iaload, 1) := by decide +kernel
theorem dL_law_595 : decode cL_law 595 = .ok (.aload_n 0, 1) := by decide +kernel
theorem dL_law_596 : decode cL_law 596 = .ok (.iload_n 3, 1) := by decide +kernel
theorem dL_law_597 : decode cL_law 597 = .ok (.iconst 3, 1) := by decide +kernel
theorem dL_law_598 : decode cL_law 598 = .ok (.iadd, 1) := by decide +kernel
theorem dL_law_599 : decode cL_law 599 = .ok (.iaload, 1) := by decide +kernel
theorem dL_law_600 : decode cL_law 600 = .ok (.aload_n 0, 1) := by decide +kernel
theorem dL_law_601 : decode cL_law 601 = .ok (.iload_n 3, 1) := by decide +kernel
theorem dL_law_602 : decode cL_law 602 = .ok (.iconst 4, 1) := by decide +kernel
theorem dL_law_603 : decode cL_law 603 = .ok (.iadd, 1) := by decide +kernel
theorem dL_law_604 : decode cL_law 604 = .ok (.iaload, 1) := by decide +kernel
theorem dL_law_605 : decode cL_law 605 = .ok (.invokevirtual 85, 3) := by decide +kernel
theorem dL_law_608 : decode cL_law 608 = .ok (.if_icmp .eq 213, 3) := by decide +kernel
theorem dL_law_611 : decode cL_law 611 = .ok (.iconst 0, 1) := by decide +kernel
theorem dL_law_612 : decode cL_law 612 = .ok (.ireturn, 1) := by decide +kernel
theorem dL_law_613 : decode cL_law 613 = .ok (.aload_n 1, 1) := by decide +kernel
theorem dL_law_614 : decode cL_law 614 = .ok (.aload_n 0, 1) := by decide +kernel
theorem dL_law_615 : decode cL_law 615 = .ok (.iload_n 3, 1) := by decide +kernel
theorem dL_law_616 : decode cL_law 616 = .ok (.iconst 1, 1) := by decide +kernel
theorem dL_law_617 : decode cL_law 617 = .ok (.iadd, 1) := by decide +kernel
theorem dL_law_618 : decode cL_law 618 = .ok (.iaload, 1) := by decide +kernel
theorem dL_law_619 : decode cL_law 619 = .ok (.aload_n 0, 1) := by decide +kernel
theorem dL_law_620 : decode cL_law 620 = .ok (.iload_n 3, 1) := by decide +kernel
theorem dL_law_621 : decode cL_law 621 = .ok (.iconst 2, 1) := by decide +kernel
theorem dL_law_622 : decode cL_law 622 = .ok (.iadd, 1) := by decide +kernel
theorem dL_law_623 : decode cL_law 623 = .ok (.iaload, 1) := by decide +kernel
theorem dL_law_624 : decode cL_law 624 = .ok (.invokevirtual 86, 3) := by decide +kernel
theorem dL_law_627 : decode cL_law 627 = .ok (.aload_n 2, 1) := by decide +kernel
theorem dL_law_628 : decode cL_law 628 = .ok (.aload_n 0, 1) := by decide +kernel
theorem dL_law_629 : decode cL_law 629 = .ok (.iload_n 3, 1) := by decide +kernel
theorem dL_law_630 : decode cL_law 630 = .ok (.iconst 1, 1) := by decide +kernel
theorem dL_law_631 : decode cL_law 631 = .ok (.iadd, 1) := by decide +kernel
theorem dL_law_632 : decode cL_law 632 = .ok (.iaload, 1) := by decide +kernel
theorem dL_law_633 : decode cL_law 633 = .ok (.aload_n 0, 1) := by decide +kernel
theorem dL_law_634 : decode cL_law 634 = .ok (.iload_n 3, 1) := by decide +kernel
theorem dL_law_635 : decode cL_law 635 = .ok (.iconst 2, 1) := by decide +kernel
theorem dL_law_636 : decode cL_law 636 = .ok (.iadd, 1) := by decide +kernel
theorem dL_law_637 : decode cL_law 637 = .ok (.iaload, 1) := by decide +kernel
theorem dL_law_638 : decode cL_law 638 = .ok (.invokevirtual 89, 3) := by decide +kernel
theorem dL_law_641 : decode cL_law 641 = .ok (.if_icmp .eq 180, 3) := by decide +kernel
theorem dL_law_644 : decode cL_law 644 = .ok (.iconst 0, 1) := by decide +kernel
theorem dL_law_645 : decode cL_law 645 = .ok (.ireturn, 1) := by decide +kernel
theorem dL_law_646 : decode cL_law 646 = .ok (.aload_n 1, 1) := by decide +kernel
theorem dL_law_647 : decode cL_law 647 = .ok (.invokevirtual 90, 3) := by decide +kernel
theorem dL_law_650 : decode cL_law 650 = .ok (.aload_n 2, 1) := by decide +kernel
theorem dL_law_651 : decode cL_law 651 = .ok (.invokevirtual 93, 3) := by decide +kernel
theorem dL_law_654 : decode cL_law 654 = .ok (.if_icmp .eq 167, 3) := by decide +kernel
theorem dL_law_657 : decode cL_law 657 = .ok (.iconst 0, 1) := by decide +kernel
theorem dL_law_658 : decode cL_law 658 = .ok (.ireturn, 1) := by decide +kernel
theorem dL_law_659 : decode cL_law 659 = .ok (.aload_n 1, 1) := by decide +kernel
theorem dL_law_660 : decode cL_law 660 = .ok (.aload_n 0, 1) := by decide +kernel
theorem dL_law_661 : decode cL_law 661 = .ok (.iload_n 3, 1) := by decide +kernel
theorem dL_law_662 : decode cL_law 662 = .ok (.iconst 1, 1) := by decide +kernel
theorem dL_law_663 : decode cL_law 663 = .ok (.iadd, 1) := by decide +kernel
theorem dL_law_664 : decode cL_law 664 = .ok (.iaload, 1) := by decide +kernel
theorem dL_law_665 : decode cL_law 665 = .ok (.invokevirtual 94, 3) := by decide +kernel
theorem dL_law_668 : decode cL_law 668 = .ok (.aload_n 2, 1) := by decide +kernel
theorem dL_law_669 : decode cL_law 669 = .ok (.aload_n 0, 1) := by decide +kernel
theorem dL_law_670 : decode cL_law 670 = .ok (.iload_n 3, 1) := by decide +kernel
theorem dL_law_671 : decode cL_law 671 = .ok (.iconst 1, 1) := by decide +kernel
theorem dL_law_672 : decode cL_law 672 = .ok (.iadd, 1) := by decide +kernel
theorem dL_law_673 : decode cL_law 673 = .ok (.iaload, 1) := by decide +kernel
theorem dL_law_674 : decode cL_law 674 = .ok (.invokevirtual 97, 3) := by decide +kernel
theorem dL_law_677 : decode cL_law 677 = .ok (.if_icmp .eq 144, 3) := by decide +kernel
theorem dL_law_680 : decode cL_law 680 = .ok (.iconst 0, 1) := by decide +kernel
theorem dL_law_681 : decode cL_law 681 = .ok (.ireturn, 1) := by decide +kernel
theorem dL_law_682 : decode cL_law 682 = .ok (.aload_n 1, 1) := by decide +kernel
theorem dL_law_683 : decode cL_law 683 = .ok (.aload_n 0, 1) := by decide +kernel
theorem dL_law_684 : decode cL_law 684 = .ok (.iload_n 3, 1) := by decide +kernel
theorem dL_law_685 : decode cL_law 685 = .ok (.iconst 1, 1) := by decide +kernel
theorem dL_law_686 : decode cL_law 686 = .ok (.iadd, 1) := by decide +kernel
theorem dL_law_687 : decode cL_law 687 = .ok (.iaload, 1) := by decide +kernel
theorem dL_law_688 : decode cL_law 688 = .ok (.invokevirtual 98, 3) := by decide +kernel
theorem dL_law_691 : decode cL_law 691 = .ok (.aload_n 2, 1) := by decide +kernel
theorem dL_law_692 : decode cL_law 692 = .ok (.aload_n 0, 1) := by decide +kernel
theorem dL_law_693 : decode cL_law 693 = .ok (.iload_n 3, 1) := by decide +kernel
theorem dL_law_694 : decode cL_law 694 = .ok (.iconst 1, 1) := by decide +kernel
theorem dL_law_695 : decode cL_law 695 = .ok (.iadd, 1) := by decide +kernel
theorem dL_law_696 : decode cL_law 696 = .ok (.iaload, 1) := by decide +kernel
theorem dL_law_697 : decode cL_law 697 = .ok (.invokevirtual 101, 3) := by decide +kernel
theorem dL_law_700 : decode cL_law 700 = .ok (.if_icmp .eq 121, 3) := by decide +kernel
theorem dL_law_703 : decode cL_law 703 = .ok (.iconst 0, 1) := by decide +kernel
theorem dL_law_704 : decode cL_law 704 = .ok (.ireturn, 1) := by decide +kernel
theorem dL_law_705 : decode cL_law 705 = .ok (.aload_n 1, 1) := by decide +kernel
theorem dL_law_706 : decode cL_law 706 = .ok (.aload_n 0, 1) := by decide +kernel
theorem dL_law_707 : decode cL_law 707 = .ok (.iload_n 3, 1) := by decide +kernel
theorem dL_law_708 : decode cL_law 708 = .ok (.iconst 1, 1) := by decide +kernel
theorem dL_law_709 : decode cL_law 709 = .ok (.iadd, 1) := by decide +kernel
theorem dL_law_710 : decode cL_law 710 = .ok (.iaload, 1) := by decide +kernel
theorem dL_law_711 : decode cL_law 711 = .ok (.aload_n 0, 1) := by decide +kernel
theorem dL_law_712 : decode cL_law 712 = .ok (.iload_n 3, 1) := by decide +kernel
theorem dL_law_713 : decode cL_law 713 = .ok (.iconst 2, 1) := by decide +kernel
theorem dL_law_714 : decode cL_law 714 = .ok (.iadd, 1) := by decide +kernel
theorem dL_law_715 : decode cL_law 715 = .ok (.iaload, 1) := by decide +kernel
theorem dL_law_716 : decode cL_law 716 = .ok (.invokevirtual 102, 3) := by decide +kernel
theorem dL_law_719 : decode cL_law 719 = .ok (.aload_n 2, 1) := by decide +kernel
theorem dL_law_720 : decode cL_law 720 = .ok (.aload_n 0, 1) := by decide +kernel
theorem dL_law_721 : decode cL_law 721 = .ok (.iload_n 3, 1) := by decide +kernel
theorem dL_law_722 : decode cL_law 722 = .ok (.iconst 1, 1) := by decide +kernel
theorem dL_law_723 : decode cL_law 723 = .ok (.iadd, 1) := by decide +kernel
theorem dL_law_724 : decode cL_law 724 = .ok (.iaload, 1) := by decide +kernel
theorem dL_law_725 : decode cL_law 725 = .ok (.aload_n 0, 1) := by decide +kernel
theorem dL_law_726 : decode cL_law 726 = .ok (.iload_n 3, 1) := by decide +kernel
theorem dL_law_727 : decode cL_law 727 = .ok (.iconst 2, 1) := by decide +kernel
theorem dL_law_728 : decode cL_law 728 = .ok (.iadd, 1) := by decide +kernel
theorem dL_law_729 : decode cL_law 729 = .ok (.iaload, 1) := by decide +kernel
theorem dL_law_730 : decode cL_law 730 = .ok (.invokevirtual 105, 3) := by decide +kernel
theorem dL_law_733 : decode cL_law 733 = .ok (.if_icmp .eq 88, 3) := by decide +kernel
theorem dL_law_736 : decode cL_law 736 = .ok (.iconst 0, 1) := by decide +kernel
theorem dL_law_737 : decode cL_law 737 = .ok (.ireturn, 1) := by decide +kernel
theorem dL_law_738 : decode cL_law 738 = .ok (.aload_n 1, 1) := by decide +kernel
theorem dL_law_739 : decode cL_law 739 = .ok (.aload_n 0, 1) := by decide +kernel
theorem dL_law_740 : decode cL_law 740 = .ok (.iload_n 3, 1) := by decide +kernel
theorem dL_law_741 : decode cL_law 741 = .ok (.iconst 1, 1) := by decide +kernel
theorem dL_law_742 : decode cL_law 742 = .ok (.iadd, 1) := by decide +kernel
theorem dL_law_743 : decode cL_law 743 = .ok (.iaload, 1) := by decide +kernel
theorem dL_law_744 : decode cL_law 744 = .ok (.invokevirtual 106, 3) := by decide +kernel
theorem dL_law_747 : decode cL_law 747 = .ok (.aload_n 2, 1) := by decide +kernel
theorem dL_law_748 : decode cL_law 748 = .ok (.aload_n 0, 1) := by decide +kernel
theorem dL_law_749 : decode cL_law 749 = .ok (.iload_n 3, 1) := by decide +kernel
theorem dL_law_750 : decode cL_law 750 = .ok (.iconst 1, 1) := by decide +kernel
theorem dL_law_751 : decode cL_law 751 = .ok (.iadd, 1) := by decide +kernel
theorem dL_law_752 : decode cL_law 752 = .ok (.iaload, 1) := by decide +kernel
theorem dL_law_753 : decode cL_law 753 = .ok (.invokevirtual 109, 3) := by decide +kernel
theorem dL_law_756 : decode cL_law 756 = .ok (.if_icmp .eq 65, 3) := by decide +kernel
theorem dL_law_759 : decode cL_law 759 = .ok (.iconst 0, 1) := by decide +kernel
theorem dL_law_760 : decode cL_law 760 = .ok (.ireturn, 1) := by decide +kernel
theorem dL_law_761 : decode cL_law 761 = .ok (.aload_n 1, 1) := by decide +kernel
theorem dL_law_762 : decode cL_law 762 = .ok (.aload_n 0, 1) := by decide +kernel
theorem dL_law_763 : decode cL_law 763 = .ok (.iload_n 3, 1) := by decide +kernel
theorem dL_law_764 : decode cL_law 764 = .ok (.iconst 1, 1) := by decide +kernel
theorem dL_law_765 : decode cL_law 765 = .ok (.iadd, 1) := by decide +kernel
theorem dL_law_766 : decode cL_law 766 = .ok (.iaload, 1) := by decide +kernel
theorem dL_law_767 : decode cL_law 767 = .ok (.invokevirtual 110, 3) := by decide +kernel
theorem dL_law_770 : decode cL_law 770 = .ok (.aload_n 2, 1) := by decide +kernel
theorem dL_law_771 : decode cL_law 771 = .ok (.aload_n 0, 1) := by decide +kernel
theorem dL_law_772 : decode cL_law 772 = .ok (.iload_n 3, 1) := by decide +kernel
theorem dL_law_773 : decode cL_law 773 = .ok (.iconst 1, 1) := by decide +kernel
theorem dL_law_774 : decode cL_law 774 = .ok (.iadd, 1) := by decide +kernel
theorem dL_law_775 : decode cL_law 775 = .ok (.iaload, 1) := by decide +kernel
theorem dL_law_776 : decode cL_law 776 = .ok (.invokevirtual 113, 3) := by decide +kernel
theorem dL_law_779 : decode cL_law 779 = .ok (.if_icmp .eq 42, 3) := by decide +kernel
theorem dL_law_782 : decode cL_law 782 = .ok (.iconst 0, 1) := by decide +kernel
theorem dL_law_783 : decode cL_law 783 = .ok (.ireturn, 1) := by decide +kernel
theorem dL_law_784 : decode cL_law 784 = .ok (.aload_n 1, 1) := by decide +kernel
theorem dL_law_785 : decode cL_law 785 = .ok (.aload_n 0, 1) := by decide +kernel
theorem dL_law_786 : decode cL_law 786 = .ok (.iload_n 3, 1) := by decide +kernel
theorem dL_law_787 : decode cL_law 787 = .ok (.iconst 1, 1) := by decide +kernel
theorem dL_law_788 : decode cL_law 788 = .ok (.iadd, 1) := by decide +kernel
theorem dL_law_789 : decode cL_law 789 = .ok (.iaload, 1) := by decide +kernel
theorem dL_law_790 : decode cL_law 790 = .ok (.invokevirtual 114, 3) := by decide +kernel
theorem dL_law_793 : decode cL_law 793 = .ok (.aload_n 2, 1) := by decide +kernel
theorem dL_law_794 : decode cL_law 794 = .ok (.aload_n 0, 1) := by decide +kernel
theorem dL_law_795 : decode cL_law 795 = .ok (.iload_n 3, 1) := by decide +kernel
theorem dL_law_796 : decode cL_law 796 = .ok (.iconst 1, 1) := by decide +kernel
theorem dL_law_797 : decode cL_law 797 = .ok (.iadd, 1) := by decide +kernel
theorem dL_law_798 : decode cL_law 798 = .ok (.iaload, 1) := by decide +kernel
theorem dL_law_799 : decode cL_law 799 = .ok (.invokevirtual 117, 3) := by decide +kernel
theorem dL_law_802 : decode cL_law 802 = .ok (.if_icmp .eq 19, 3) := by decide +kernel
theorem dL_law_805 : decode cL_law 805 = .ok (.iconst 0, 1) := by decide +kernel
theorem dL_law_806 : decode cL_law 806 = .ok (.ireturn, 1) := by decide +kernel
theorem dL_law_807 : decode cL_law 807 = .ok (.aload_n 1, 1) := by decide +kernel
theorem dL_law_808 : decode cL_law 808 = .ok (.invokevirtual 118, 3) := by decide +kernel
theorem dL_law_811 : decode cL_law 811 = .ok (.aload_n 2, 1) := by decide +kernel
theorem dL_law_812 : decode cL_law 812 = .ok (.invokevirtual 122, 3) := by decide +kernel
theorem dL_law_815 : decode cL_law 815 = .ok (.lcmp, 1) := by decide +kernel
theorem dL_law_816 : decode cL_law 816 = .ok (.ifCond .eq 5, 3) := by decide +kernel
theorem dL_law_819 : decode cL_law 819 = .ok (.iconst 0, 1) := by decide +kernel
theorem dL_law_820 : decode cL_law 820 = .ok (.ireturn, 1) := by decide +kernel
theorem dL_law_821 : decode cL_law 821 = .ok (.iinc 3 5, 3) := by decide +kernel
theorem dL_law_824 : decode cL_law 824 = .ok (.goto (-806), 3) := by decide +kernel
theorem dL_law_827 : decode cL_law 827 = .ok (.iconst 1, 1) := by decide +kernel
theorem dL_law_828 : decode cL_law 828 = .ok (.ireturn, 1) := by decide +kernel
end
section
/-! THE POOL. Every object and array that the class and the reference make lies at a role (a number below NR); ad gives its address. -/
def NR : Nat := 176
def kdL : List Nat := [6, 2, 8, 8, 4, 8, 8, 8, 8, 8, 8, 8, 8, 8, 4, 8, 8, 8, 8, 8, 8, 8, 8, 8, 5, 0, 8, 10, 0, 8, 0, 8, 0, 8, 0, 8, 0, 8, 0, 8, 0, 8, 0, 8, 0, 8, 0, 8, 11, 5, 0, 8, 10, 0, 8, 0, 8, 0, 8, 0, 8, 0, 8, 0, 8, 0, 8, 0, 8, 0, 8, 0, 8, 5, 0, 8, 10, 0, 8, 0, 8, 0, 8, 0, 8, 0, 8, 0, 8, 0, 8, 0, 8, 0, 8, 0, 8, 9, 3, 8, 8, 8, 8, 8, 8, 10, 0, 8, 0, 8, 0, 8, 0, 8, 0, 8, 0, 8, 0, 8, 1, 8, 8, 10, 0, 8, 0, 8, 0, 8, 0, 8, 0, 8, 0, 8, 0, 8, 1, 8, 8, 10, 0, 8, 0, 8, 0, 8, 0, 8, 0, 8, 0, 8, 0, 8, 0, 8, 7, 8, 8, 8, 8, 8, 9, 8, 8, 8, 8, 8, 8, 8, 8, 8, 8, 8]
def lnL : List Nat := [0, 0, 200, 4, 0, 4, 4, 6, 6, 6, 6, 6, 7, 7, 0, 4, 4, 6, 6, 6, 6, 6, 7, 7, 0, 0, 4, 10, 0, 4, 0, 4, 0, 4, 0, 4, 0, 4, 0, 4, 0, 4, 0, 4, 0, 4, 0, 4, 2, 0, 0, 4, 10, 0, 4, 0, 4, 0, 4, 0, 4, 0, 4, 0, 4, 0, 4, 0, 4, 0, 4, 0, 4, 0, 0, 4, 10, 0, 4, 0, 4, 0, 4, 0, 4, 0, 4, 0, 4, 0, 4, 0, 4, 0, 4, 0, 4, 2, 0, 6, 6, 6, 6, 6, 6, 7, 0, 4, 0, 4, 0, 4, 0, 4, 0, 4, 0, 4, 0, 4, 0, 6, 6, 7, 0, 4, 0, 4, 0, 4, 0, 4, 0, 4, 0, 4, 0, 4, 0, 6, 6, 7, 0, 4, 0, 4, 0, 4, 0, 4, 0, 4, 0, 4, 0, 4, 0, 4, 0, 8, 24, 7, 70, 156, 2, 12, 200, 8, 24, 2, 28, 7, 7, 7, 6, 6]
/-- the kind of a role: 0..7 a class (its place in vwCl), 8 int[], 9 boolean[], 10 Moment[], 11 Voyage[] -/
def kd (a : Nat) : Nat := kdL.getD a 99
def ln (a : Nat) : Nat := lnL.getD a 0
abbrev PSt : Type := (Nat → Nat → Int32) × (Nat → Nat → Int64) × (Nat → Nat → Nat) × (Nat → Nat → Int32) × (Nat → Nat → Nat)
def gI (S : PSt) (f a : Nat) : Int32 := S.1 f a
def gJ (S : PSt) (f a : Nat) : Int64 := S.2.1 f a
def gR (S : PSt) (f a : Nat) : Nat := S.2.2.1 f a
def gA (S : PSt) (a : Nat) : Nat → Int32 := S.2.2.2.1 a
def gQ (S : PSt) (a : Nat) : Nat → Nat := S.2.2.2.2 a
def sI (S : PSt) (f a : Nat) (v : Int32) : PSt := (fun g b => if g = f ∧ b = a then v else S.1 g b, S.2)
def sJ (S : PSt) (f a : Nat) (v : Int64) : PSt := (S.1, fun g b => if g = f ∧ b = a then v else S.2.1 g b, S.2.2)
def sR (S : PSt) (f a : Nat) (v : Nat) : PSt := (S.1, S.2.1, fun g b => if g = f ∧ b = a then v else S.2.2.1 g b, S.2.2.2)
def sA (S : PSt) (a i : Nat) (v : Int32) : PSt := (S.1, S.2.1, S.2.2.1, fun b => if b = a then upd (S.2.2.2.1 b) i v else S.2.2.2.1 b, S.2.2.2.2)
def sQ (S : PSt) (a i : Nat) (v : Nat) : PSt := (S.1, S.2.1, S.2.2.1, S.2.2.2.1, fun b => if b = a then va_up (S.2.2.2.2 b) i v else S.2.2.2.2 b)
/-- the fields of a class in the order of its slots: 0 an int, 1 a long (by its number), 2 a final reference (by its offset), 3 a reference that changes -/
def ft (ci : Nat) : List (Nat × Nat) := match ci with
  | 0 => [(0, 0), (0, 1), (0, 2), (2, 1)]
  | 1 => [(0, 100), (0, 101), (2, 1), (0, 103), (2, 2), (2, 3)]
  | 2 => [(0, 200), (2, 1), (0, 202), (0, 203), (0, 204), (0, 205), (0, 206), (0, 207), (2, 2)]
  | 3 => [(0, 300), (0, 301), (0, 302), (2, 1), (2, 2), (2, 3), (2, 4), (2, 5), (0, 308), (2, 6), (2, 7)]
  | 4 => [(0, 400), (0, 401), (0, 402), (0, 403), (0, 404), (2, 1), (2, 2), (2, 3), (2, 4), (2, 5), (2, 6), (2, 7), (2, 8), (2, 9)]
  | 5 => [(2, 1), (0, 501), (2, 3)]
  | 6 => [(2, 1), (3, 601), (3, 602), (2, 24), (2, 48), (2, 97), (2, 98), (2, 120), (2, 138), (2, 156), (1, 610)]
  | 7 => [(0, 700), (2, 1), (0, 702), (2, 2), (0, 704), (0, 705), (2, 3), (2, 4), (0, 708), (2, 5), (2, 6), (0, 711), (2, 7), (1, 713), (2, 8), (0, 715), (0, 716), (0, 717), (0, 718), (0, 719), (0, 720), (0, 721), (2, 9), (0, 723), (2, 10), (2, 11), (2, 12), (2, 13), (2, 14), (2, 15), (2, 16), (2, 17), (0, 732), (0, 733)]
  | _ => []
def fv (ad : Nat → Nat) (S : PSt) (a : Nat) (q : Nat × Nat) : Value := match q.1 with
  | 0 => .int (gI S q.2 a)
  | 1 => .long (gJ S q.2 a)
  | 2 => .ref (ad (a + q.2))
  | _ => .ref (ad (gR S q.2 a))
def pF (cy : Nat → ClassId) (ad : Nat → Nat) (S : PSt) (a : Nat) : va_E :=
  if kd a < 8 then .inr (kd a, (ft (kd a)).map (fv ad S a))
  else if kd a < 10 then .inl (cy (kd a), ln a, .inl (gA S a))
  else .inl (cy (kd a), ln a, .inr (.inr (.inr (.inr (fun i => some (ad (gQ S a i)))))))
def pW (cy : Nat → ClassId) (ad : Nat → Nat) (S : PSt) : va_W := (List.range NR).map (fun a => (ad a, pF cy ad S a))
def tys (cy : Nat → ClassId) : List (ClassId × FieldType) := [(cy 8, .int), (cy 9, .boolean), (cy 10, .object RX0), (cy 11, .object RX5)]
def pA (ad : Nat → Nat) (sz : Nat) : Nat → Prop := fun q => (∃ i, i < NR ∧ q = ad i) ∨ sz ≤ q
def pJ (ad : Nat → Nat) : Prop := ∀ i j, i < NR → j < NR → ad i = ad j → i = j
theorem kd_lt {a : Nat} (h : kd a < 12) : a < NR := by
  rcases Nat.lt_or_ge a NR with q | q
  · exact q
  · exfalso
    have : kd a = 99 := by
      unfold kd
      rw [List.getD_eq_getElem?_getD, List.getElem?_eq_none (by exact q)]
      rfl
    omega
theorem pW_get {cy : Nat → ClassId} {ad : Nat → Nat} {S : PSt} {a : Nat} (h : a < NR) : (pW cy ad S)[a]? = some (ad a, pF cy ad S a) := by
  simp [pW, h]
theorem pW_set {cy : Nat → ClassId} {ad : Nat → Nat} {S S' : PSt} {a : Nat} {e : va_E} (h1 : pF cy ad S' a = e) (h2 : ∀ b, b ≠ a → pF cy ad S' b = pF cy ad S b) : (pW cy ad S).set a (ad a, e) = pW cy ad S' := by
  apply List.ext_getElem?
  intro i
  rw [List.getElem?_set]
  by_cases hi : a = i
  · subst hi
    by_cases hl : a < NR
    · simp [pW, hl, h1]
    · simp [pW, hl]
  · rw [if_neg hi]
    by_cases hl : i < NR
    · rw [pW_get hl, pW_get hl, h2 i (fun q => hi q.symm)]
    · simp [pW, hl]
theorem pD {cy : Nat → ClassId} {ad : Nat → Nat} {S : PSt} {sz : Nat} (hJ : pJ ad) : va_D (pA ad sz) (pW cy ad S) := by
  have hlt : ∀ (i : Nat) (p : Nat × va_E), (pW cy ad S)[i]? = some p → i < NR ∧ p = (ad i, pF cy ad S i) := by
    intro i p h
    have h1 : i < NR := by
      have := (List.getElem?_eq_some_iff.mp h).1
      simpa [pW] using this
    rw [pW_get h1] at h
    exact ⟨h1, (Option.some.inj h).symm⟩
  refine ⟨fun i j p q hi hj hpq => ?_, fun k q hk => ?_⟩
  · obtain ⟨h1, rfl⟩ := hlt i p hi
    obtain ⟨h2, rfl⟩ := hlt j q hj
    exact hJ i j h1 h2 hpq
  · obtain ⟨h1, rfl⟩ := hlt k q hk
    exact Or.inl ⟨k, h1, rfl⟩
theorem pA_mono {ad : Nat → Nat} {s1 s2 : Nat} (h : s1 ≤ s2) (q : Nat) (hq : pA ad s2 q) : pA ad s1 q := by
  rcases hq with h1 | h1
  · exact Or.inl h1
  · exact Or.inr (Nat.le_trans h h1)
/-- the class's static rows of numbers -/
def stN (b : Nat) : String := match b with
  | 0 => "WALKER_BOUNDS"
  | 1 => "STRETCH_BOUNDS"
  | 2 => "CHANGE_BOUNDS"
  | _ => "HOURS_BOUNDS"
def stX (b : Nat) : List Int32 := match b with
  | 0 => [1, 9, 1, 40]
  | 1 => [1, 9, 2, 18, 0, 1, 0, 1]
  | 2 => [0, 9]
  | _ => [10, 99]
def stL (b : Nat) : Nat := (stX b).length
def stV (b j : Nat) : Int32 := (stX b).getD j 0
def nestL : List (String × Nat × MethodName) := [("BoatLeggers", 9, yX2_init), ("BoatLeggers", 18, yX4_init), ("BoatLeggers$Voyage", 11, yX0_init), ("BoatLeggers$Sightings", 36, yX0_init), ("BoatLeggers$Planner", 32, yX0_init), ("BoatLeggers", 62, yX0_init), ("BoatLeggers$Sightings", 106, yX6_power)]
def Ex (ad tb : Nat → Nat) (U : State) : Prop := (∀ q ∈ nestL, va_Nw (.methodLinkNest q.1 q.2.1 q.2.2 "BoatLeggers") U) ∧ ∀ b, b < 4 → va_Z RX2 (stN b) "[I" (.ref (tb b)) (pA ad U.heap.size) U U.heap ∧ va_T .int (tb b) (stL b) (fun j => .int (stV b j)) (pA ad U.heap.size) U U.heap
theorem Ex.go {ad tb : Nat → Nat} {s U : State} {H : Heap} {locs : List Loc} (h : Ex ad tb s) (hS : va_S (pA ad s.heap.size) s.heap H locs) (hU : U.heap = H) (hW : s.WarmedH U.vm) : Ex ad tb U := by
  refine ⟨fun q hq => va_Nw.warmM hW (h.1 q hq), fun b hb => ?_⟩
  subst hU
  obtain ⟨h1, h2⟩ := h.2 b hb
  exact ⟨((h1.moved hW.alike).kept hS.2.1).narrow (fun q hq => pA_mono hS.1 q hq), ((h2.moved hW.alike).kept hS.2.1).narrow (fun q hq => pA_mono hS.1 q hq)⟩
theorem Ex.call {ad tb : Nat → Nat} {U : State} {g : JFrame} {mk : MethodId} {a : Array Value} (h : Ex ad tb U) : Ex ad tb (U.calling g mk a) := by
  refine ⟨fun q hq => va_Nw.same rfl rfl (h.1 q hq), fun b hb => ?_⟩
  obtain ⟨h1, h2⟩ := h.2 b hb
  exact ⟨va_Z.moved (u := U) (U := U.calling g mk a) (Vm.Alike.refl U.vm) h1, va_T.moved (u := U) (U := U.calling g mk a) (Vm.Alike.refl U.vm) h2⟩
/-- the words that every method is given -/
def lw_tg : List Cond := lw_tbl.filter goodWord
abbrev wz (y : MethodName) (cc : ByteArray) (maxL : Nat) (ret : Option FieldType) : List Cond := .code y cc maxL ret :: lw_tg
abbrev rmd (d : Nat) : Room := { frames := d, cells := 0, slots := 0, locals := 40 * d + 40 }
/-- what every method knows: the machine, its code, the words, its class, the tables, the addresses apart -/
abbrev Cx (p : Program) (s : State) (m : MethodId) (args : Array Value) (c : Code) (cc : ByteArray) (own : String) (D : va_G) (cy : Nat → ClassId) (ad tb : Nat → Nat) : Prop :=
  p.tables.exec = Jvm.exec ∧ c.code = cc ∧ (∀ w ∈ lw_tg, w.before args s = true) ∧ s.vm.findClass own = some m.cls ∧ va_K D vwCl (tys cy) s ∧ pJ ad ∧ Ex ad tb s
/-! pure words: a guard, a name, a call -/
def gd {α : Type} (b : Bool) (k : Option α) : Option α := if b then k else none
def bnd {α β : Type} (x : α) (k : α → Option β) : Option β := k x
def cal1 {β : Type} (o : Option PSt) (k : PSt → Option β) : Option β := match o with
  | none => none
  | some q => k q
def cal2 {α β : Type} (o : Option (α × PSt)) (k : α → PSt → Option β) : Option β := match o with
  | none => none
  | some q => k q.1 q.2
def bin (i : Int32) (n : Nat) : Bool := !(decide (i < 0)) && decide (i.toNatClampNeg < n)
def nz (i : Int32) : Bool := !(decide (i = 0))
def z1 (i : Int32) : Bool := decide (i = 0) || decide (i = 1)
def isk (a k : Nat) : Bool := kd a == k
theorem gd_some {α : Type} {b : Bool} {k : Option α} {z : α} (h : gd b k = some z) : b = true ∧ k = some z := by
  unfold gd at h
  cases b
  · cases h
  · exact ⟨rfl, h⟩
theorem bnd_some {α β : Type} {x : α} {k : α → Option β} {z : β} (h : bnd x k = some z) : ∃ y, y = x ∧ k y = some z := ⟨x, rfl, h⟩
theorem cal1_some {β : Type} {o : Option PSt} {k : PSt → Option β} {z : β} (h : cal1 o k = some z) : ∃ q, o = some q ∧ k q = some z := by
  unfold cal1 at h
  cases o with
  | none => cases h
  | some q => exact ⟨q, rfl, h⟩
theorem cal2_some {α β : Type} {o : Option (α × PSt)} {k : α → PSt → Option β} {z : β} (h : cal2 o k = some z) : ∃ r q, o = some (r, q) ∧ k r q = some z := by
  unfold cal2 at h
  cases o with
  | none => cases h
  | some q => exact ⟨q.1, q.2, rfl, h⟩
theorem ite_t {α : Type} {c : Prop} [Decidable c] {A B : Option α} {z : α} (hc : c) (h : (if c then A else B) = some z) : A = some z := by rw [if_pos hc] at h; exact h
theorem ite_f {α : Type} {c : Prop} [Decidable c] {A B : Option α} {z : α} (hc : ¬ c) (h : (if c then A else B) = some z) : B = some z := by rw [if_neg hc] at h; exact h
theorem bin_in {i : Int32} {n : Nat} (h : bin i n = true) : vp_in i n := by
  simp only [bin, Bool.and_eq_true, Bool.not_eq_true', decide_eq_false_iff_not, decide_eq_true_eq] at h
  intro q
  rcases q with q | q
  · exact h.1 q
  · omega
theorem nz_ne {i : Int32} (h : nz i = true) : ¬ i = 0 := by simpa [nz] using h
theorem z1_or {i : Int32} (h : z1 i = true) : i = 0 ∨ i = 1 := by simpa [z1] using h
theorem isk_eq {a k : Nat} (h : isk a k = true) : kd a = k := by simpa [isk] using h
section BASE
variable {p : Program} {l : Launch} {e : Env} {R : Room} {s : State} {m : MethodId} {args : Array Value} {below : List Frame} {meth : Method} {c : Code} {H : Heap} {locs : List Loc} {cells slots : Nat} {Q : State → Prop}
variable {cc : ByteArray} {own : String} {D : va_G} {cy : Nat → ClassId} {ad tb : Nat → Nat} {S : PSt} {pc : Nat} {ls : Array Slot} {rest : List Value} {a index : Nat}
theorem pF_obj {ci : Nat} (hci : ci < 8) (hka : kd a = ci) : pF cy ad S a = .inr (ci, (ft ci).map (fv ad S a)) := by
  unfold pF
  rw [hka, if_pos hci]
theorem pF_int (hka : kd a = 8) : pF cy ad S a = .inl (cy 8, ln a, .inl (gA S a)) := by
  unfold pF
  rw [hka, if_neg (by decide), if_pos (by decide)]
theorem pF_boo (hka : kd a = 9) : pF cy ad S a = .inl (cy 9, ln a, .inl (gA S a)) := by
  unfold pF
  rw [hka, if_neg (by decide), if_pos (by decide)]
theorem pF_mom (hka : kd a = 10) : pF cy ad S a = .inl (cy 10, ln a, .inr (.inr (.inr (.inr (fun i => some (ad (gQ S a i))))))) := by
  unfold pF
  rw [hka, if_neg (by decide), if_neg (by decide)]
theorem pF_voy (hka : kd a = 11) : pF cy ad S a = .inl (cy 11, ln a, .inr (.inr (.inr (.inr (fun i => some (ad (gQ S a i))))))) := by
  unfold pF
  rw [hka, if_neg (by decide), if_neg (by decide)]
theorem pg_get (hC : Cx p s m args c cc own D cy ad tb) (hP : va_P D vwCl (pW cy ad S) H) (ci k : Nat) {C : String} {T : u_T} {N : Nat} (hc : vwCl[ci]? = some (C, T, N)) (hin : ∀ w ∈ u_ws C T N, w ∈ lw_tg) (hci : ci < 8) (hk : k < N) {q : Nat × Nat} (hq : (ft ci)[k]? = some q) (hlink : Cond.fieldLink own index (T k).1 (T k).2.1 (T k).2.2.1 ∈ lw_tg) (hka : kd a = ci) {v : Value} (hv : fv ad S a q = v) (hdg : decode cc pc = .ok (.getfield index, 3))
    (kk : W p l e R s m args below meth c H locs cells slots Q (F0 m (pc + 3) ls (v :: rest))) : W p l e R s m args below meth c H locs cells slots Q (F0 m pc ls (.ref (ad a) :: rest)) := by
  obtain ⟨hx, hb, hts, hown, hK, hJ, hE⟩ := hC
  have hlt : a < NR := kd_lt (by omega)
  exact va_get hx hb hts hin hown hK hP a (fs := (ft ci).map (fv ad S a)) (by rw [pW_get hlt, pF_obj hci hka]) hc k hk (hts _ hlink) (fun _ h => h) (v := v) (by rw [List.getElem?_map, hq, ← hv]; rfl) hdg kk
theorem fv_sI_ne {f b : Nat} {v : Int32} {q : Nat × Nat} (h : b ≠ a) : fv ad (sI S f a v) b q = fv ad S b q := by
  unfold fv
  split <;> simp [gI, gJ, gR, sI, h]
theorem fv_sJ_ne {f b : Nat} {v : Int64} {q : Nat × Nat} (h : b ≠ a) : fv ad (sJ S f a v) b q = fv ad S b q := by
  unfold fv
  split <;> simp [gI, gJ, gR, sJ, h]
theorem fv_sR_ne {f b : Nat} {v : Nat} {q : Nat × Nat} (h : b ≠ a) : fv ad (sR S f a v) b q = fv ad S b q := by
  unfold fv
  split <;> simp [gI, gJ, gR, sR, h]
theorem pF_sI_ne {f b : Nat} {v : Int32} (h : b ≠ a) : pF cy ad (sI S f a v) b = pF cy ad S b := by
  unfold pF
  have h1 : fv ad (sI S f a v) b = fv ad S b := funext fun q => fv_sI_ne h
  rw [h1]; rfl
theorem pF_sJ_ne {f b : Nat} {v : Int64} (h : b ≠ a) : pF cy ad (sJ S f a v) b = pF cy ad S b := by
  unfold pF
  have h1 : fv ad (sJ S f a v) b = fv ad S b := funext fun q => fv_sJ_ne h
  rw [h1]; rfl
theorem pF_sR_ne {f b : Nat} {v : Nat} (h : b ≠ a) : pF cy ad (sR S f a v) b = pF cy ad S b := by
  unfold pF
  have h1 : fv ad (sR S f a v) b = fv ad S b := funext fun q => fv_sR_ne h
  rw [h1]; rfl
/-- the fields of a class are apart: the k-th alone has its tag and number -/
def ftOne (ci k : Nat) (q : Nat × Nat) : Bool := (List.range (ft ci).length).all (fun j => j == k || !((ft ci)[j]? == some q))
theorem map_set_one {ci k : Nat} {q : Nat × Nat} (hq : (ft ci)[k]? = some q) (ho : ftOne ci k q = true) {f g : Nat × Nat → Value} (hne : ∀ r, r ≠ q → r ∈ ft ci → g r = f r) : (ft ci).map g = ((ft ci).map f).set k (g q) := by
  apply List.ext_getElem?
  intro j
  rw [List.getElem?_set]
  by_cases hj : k = j
  · subst hj
    have hl : k < (ft ci).length := (List.getElem?_eq_some_iff.mp hq).1
    rw [if_pos rfl, if_pos (by simpa using hl), List.getElem?_map, hq]; rfl
  · rw [if_neg hj, List.getElem?_map, List.getElem?_map]
    cases hr : (ft ci)[j]? with
    | none => rfl
    | some r =>
      have hl : j < (ft ci).length := (List.getElem?_eq_some_iff.mp hr).1
      have h1 := List.all_eq_true.mp ho j (List.mem_range.mpr hl)
      rw [hr] at h1
      have h2 : r ≠ q := by
        intro he
        subst he
        simp at h1
        exact hj h1.symm
      show some (g r) = some (f r)
      rw [hne r h2 (List.mem_of_getElem? hr)]
theorem sI_at {f : Nat} {v : Int32} : fv ad (sI S f a v) a (0, f) = .int v := by simp [fv, gI, sI]
theorem sJ_at {f : Nat} {v : Int64} : fv ad (sJ S f a v) a (1, f) = .long v := by simp [fv, gJ, sJ]
theorem sR_at {f : Nat} {v : Nat} : fv ad (sR S f a v) a (3, f) = .ref (ad v) := by simp [fv, gR, sR]
theorem sI_off {f : Nat} {v : Int32} {r : Nat × Nat} (h : r ≠ (0, f)) : fv ad (sI S f a v) a r = fv ad S a r := by
  obtain ⟨r1, r2⟩ := r
  unfold fv
  split <;> rename_i hr <;> try rfl
  simp only at hr
  subst hr
  have h2 : r2 ≠ f := fun q => h (by rw [q])
  simp [gI, sI, h2]
theorem sJ_off {f : Nat} {v : Int64} {r : Nat × Nat} (h : r ≠ (1, f)) : fv ad (sJ S f a v) a r = fv ad S a r := by
  obtain ⟨r1, r2⟩ := r
  unfold fv
  split <;> rename_i hr <;> try rfl
  simp only at hr
  subst hr
  have h2 : r2 ≠ f := fun q => h (by rw [q])
  simp [gJ, sJ, h2]
theorem sR_off {f v : Nat} {r : Nat × Nat} (h : r ≠ (3, f)) (hr3 : r.1 ≤ 3) : fv ad (sR S f a v) a r = fv ad S a r := by
  obtain ⟨r1, r2⟩ := r
  simp only at hr3
  rcases (show r1 = 0 ∨ r1 = 1 ∨ r1 = 2 ∨ r1 = 3 by omega) with q | q | q | q <;> subst q
  · rfl
  · rfl
  · rfl
  · have h4 : r2 ≠ f := fun q => h (by rw [q])
    simp [fv, gR, sR, h4]
theorem sw_out {x : Int32} (lo hi : Int) (h : ∀ k : Int, lo ≤ k → k ≤ hi → x = Int32.ofInt k → False) : x.toInt < lo ∨ hi < x.toInt := by
  rcases Int.lt_or_le x.toInt lo with h1 | h1
  · exact Or.inl h1
  · rcases Int.lt_or_le hi x.toInt with h2 | h2
    · exact Or.inr h2
    · exact (h x.toInt h1 h2 (Int32.ofInt_toInt x).symm).elim
theorem lk_out {x : Int} {dflt : Int} : ∀ {ps : List (Int × Int)}, (∀ k, k ∈ ps.map Prod.fst → x = k → False) → Op.lookupswitch.offset ps dflt x = dflt
  | [], _ => rfl
  | (a, o) :: r, h => by
    rw [Op.lookupswitch.offset_cons, if_neg (fun q => h a (by simp) q.symm)]
    exact lk_out (fun k hk => h k (by simp only [List.map_cons, List.mem_cons]; exact Or.inr hk))
theorem pg_put (hC : Cx p s m args c cc own D cy ad tb) (hP : va_P D vwCl (pW cy ad S) H) (hS : va_S (pA ad s.heap.size) s.heap H locs) (ci k : Nat) {C : String} {T : u_T} {N : Nat} (hc : vwCl[ci]? = some (C, T, N)) (hin : ∀ w ∈ u_ws C T N, w ∈ lw_tg) (ty0 : Nat → FieldType) (hty : ∀ k, k < N → parseFieldDescriptor (T k).2.2.1 = some (ty0 k)) (hnm : ∀ a, a < N → ∀ b, b < N → a ≠ b → (T a).2.1 ≠ (T b).2.1) (hci : ci < 8) (hk : k < N) {q : Nat × Nat} (hq : (ft ci)[k]? = some q) (ho : ftOne ci k q = true) (hlink : Cond.fieldLink own index (T k).1 (T k).2.1 (T k).2.2.1 ∈ lw_tg) (hfin : (T k).2.2.2 = false) (hka : kd a = ci) {S' : PSt} {v : Value} (hv : fv ad S' a q = v) (hne : ∀ r, r ≠ q → r ∈ ft ci → fv ad S' a r = fv ad S a r) (hne2 : ∀ b, b ≠ a → pF cy ad S' b = pF cy ad S b) (hn : narrow (ty0 k) v = v) (hfit : fits (ty0 k) v = true) (hdg : decode cc pc = .ok (.putfield index, 3))
    (kk : ∀ (H1 : Heap) (locs1 : List Loc), va_P D vwCl (pW cy ad S') H1 → va_S (pA ad s.heap.size) s.heap H1 locs1 → W p l e R s m args below meth c H1 locs1 cells slots Q (F0 m (pc + 3) ls rest)) : W p l e R s m args below meth c H locs cells slots Q (F0 m pc ls (v :: .ref (ad a) :: rest)) := by
  obtain ⟨hx, hb, hts, hown, hK, hJ, hE⟩ := hC
  have hlt : a < NR := kd_lt (by omega)
  have hl : k < (ft ci).length := (List.getElem?_eq_some_iff.mp hq).1
  refine va_put hx hb hts hin ty0 hty hnm hown hK hP (pD hJ) hS a (fs := (ft ci).map (fv ad S a)) (by rw [pW_get hlt, pF_obj hci hka]) hc k hk (hts _ hlink) (fun _ h => h) hfin (hty k hk) hn hfit (by simpa using hl) hdg (fun H1 locs1 hP1 hD1 hS1 => ?_)
  refine kk H1 locs1 ?_ hS1
  have h1 : pF cy ad S' a = .inr (ci, ((ft ci).map (fv ad S a)).set k v) := by
    rw [pF_obj hci hka, map_set_one hq ho hne, hv]
  rw [pW_set h1 hne2] at hP1
  exact hP1
theorem pg_iald (hC : Cx p s m args c cc own D cy ad tb) (hP : va_P D vwCl (pW cy ad S) H) (hka : kd a = 8) {i : Int32} (hin : vp_in i (ln a)) (hdg : decode cc pc = .ok (.iaload, 1))
    (kk : W p l e R s m args below meth c H locs cells slots Q (F0 m (pc + 1) ls (.int (gA S a i.toNatClampNeg) :: rest))) : W p l e R s m args below meth c H locs cells slots Q (F0 m pc ls (.int i :: .ref (ad a) :: rest)) := by
  obtain ⟨hx, hb, hts, hown, hK, hJ, hE⟩ := hC
  exact va_iald hx hb hK hP a 0 (by rw [pW_get (kd_lt (by omega)), pF_int hka]) rfl hin hdg kk
theorem pg_zald (hC : Cx p s m args c cc own D cy ad tb) (hP : va_P D vwCl (pW cy ad S) H) (hka : kd a = 9) {i : Int32} (hin : vp_in i (ln a)) (hdg : decode cc pc = .ok (.baload, 1))
    (kk : W p l e R s m args below meth c H locs cells slots Q (F0 m (pc + 1) ls (.int (gA S a i.toNatClampNeg) :: rest))) : W p l e R s m args below meth c H locs cells slots Q (F0 m pc ls (.int i :: .ref (ad a) :: rest)) := by
  obtain ⟨hx, hb, hts, hown, hK, hJ, hE⟩ := hC
  exact va_zald hx hb hK hP a 1 (by rw [pW_get (kd_lt (by omega)), pF_boo hka]) rfl hin hdg kk
theorem pg_aldM (hC : Cx p s m args c cc own D cy ad tb) (hP : va_P D vwCl (pW cy ad S) H) (hka : kd a = 10) {i : Int32} (hin : vp_in i (ln a)) (hdg : decode cc pc = .ok (.aaload, 1))
    (kk : W p l e R s m args below meth c H locs cells slots Q (F0 m (pc + 1) ls (.ref (ad (gQ S a i.toNatClampNeg)) :: rest))) : W p l e R s m args below meth c H locs cells slots Q (F0 m pc ls (.int i :: .ref (ad a) :: rest)) := by
  obtain ⟨hx, hb, hts, hown, hK, hJ, hE⟩ := hC
  exact va_aldq (f := fun j => some (ad (gQ S a j))) hx hb hK hP a 2 (by rw [pW_get (kd_lt (by omega)), pF_mom hka]) rfl hin hdg kk
theorem pg_aldV (hC : Cx p s m args c cc own D cy ad tb) (hP : va_P D vwCl (pW cy ad S) H) (hka : kd a = 11) {i : Int32} (hin : vp_in i (ln a)) (hdg : decode cc pc = .ok (.aaload, 1))
    (kk : W p l e R s m args below meth c H locs cells slots Q (F0 m (pc + 1) ls (.ref (ad (gQ S a i.toNatClampNeg)) :: rest))) : W p l e R s m args below meth c H locs cells slots Q (F0 m pc ls (.int i :: .ref (ad a) :: rest)) := by
  obtain ⟨hx, hb, hts, hown, hK, hJ, hE⟩ := hC
  exact va_aldq (f := fun j => some (ad (gQ S a j))) hx hb hK hP a 3 (by rw [pW_get (kd_lt (by omega)), pF_voy hka]) rfl hin hdg kk
theorem pF_sA_ne {b i : Nat} {v : Int32} (h : b ≠ a) : pF cy ad (sA S a i v) b = pF cy ad S b := by
  unfold pF
  have h1 : fv ad (sA S a i v) b = fv ad S b := funext fun q => by unfold fv; split <;> rfl
  have h2 : gA (sA S a i v) b = gA S b := by simp [gA, sA, h]
  have h3 : gQ (sA S a i v) b = gQ S b := rfl
  rw [h1, h2, h3]
theorem pF_sQ_ne {b i v : Nat} (h : b ≠ a) : pF cy ad (sQ S a i v) b = pF cy ad S b := by
  unfold pF
  have h1 : fv ad (sQ S a i v) b = fv ad S b := funext fun q => by unfold fv; split <;> rfl
  have h2 : gQ (sQ S a i v) b = gQ S b := by simp [gQ, sQ, h]
  have h3 : gA (sQ S a i v) b = gA S b := rfl
  rw [h1, h2, h3]
theorem pg_iast (hC : Cx p s m args c cc own D cy ad tb) (hP : va_P D vwCl (pW cy ad S) H) (hS : va_S (pA ad s.heap.size) s.heap H locs) (hka : kd a = 8) {i x : Int32} (hin : vp_in i (ln a)) (hdg : decode cc pc = .ok (.iastore, 1))
    (kk : ∀ (H1 : Heap) (locs1 : List Loc), va_P D vwCl (pW cy ad (sA S a i.toNatClampNeg x)) H1 → va_S (pA ad s.heap.size) s.heap H1 locs1 → W p l e R s m args below meth c H1 locs1 cells slots Q (F0 m (pc + 1) ls rest)) : W p l e R s m args below meth c H locs cells slots Q (F0 m pc ls (.int x :: .int i :: .ref (ad a) :: rest)) := by
  obtain ⟨hx, hb, hts, hown, hK, hJ, hE⟩ := hC
  refine va_iast hx hb hK hP (pD hJ) hS a 0 (by rw [pW_get (kd_lt (by omega)), pF_int hka]) rfl hin hdg (fun H1 locs1 hP1 hD1 hS1 => kk H1 locs1 ?_ hS1)
  rw [pW_set (S' := sA S a i.toNatClampNeg x) (by rw [pF_int hka]; simp [gA, sA]) (fun b hb => pF_sA_ne hb)] at hP1
  exact hP1
theorem pg_zast (hC : Cx p s m args c cc own D cy ad tb) (hP : va_P D vwCl (pW cy ad S) H) (hS : va_S (pA ad s.heap.size) s.heap H locs) (hka : kd a = 9) {i x : Int32} (hin : vp_in i (ln a)) (hdg : decode cc pc = .ok (.bastore, 1))
    (kk : ∀ (H1 : Heap) (locs1 : List Loc), va_P D vwCl (pW cy ad (sA S a i.toNatClampNeg (vp_nar .boolean x))) H1 → va_S (pA ad s.heap.size) s.heap H1 locs1 → W p l e R s m args below meth c H1 locs1 cells slots Q (F0 m (pc + 1) ls rest)) : W p l e R s m args below meth c H locs cells slots Q (F0 m pc ls (.int x :: .int i :: .ref (ad a) :: rest)) := by
  obtain ⟨hx, hb, hts, hown, hK, hJ, hE⟩ := hC
  refine va_zast hx hb hK hP (pD hJ) hS a 1 (by rw [pW_get (kd_lt (by omega)), pF_boo hka]) rfl hin hdg (fun H1 locs1 hP1 hD1 hS1 => kk H1 locs1 ?_ hS1)
  rw [pW_set (S' := sA S a i.toNatClampNeg (vp_nar .boolean x)) (by rw [pF_boo hka]; simp [gA, sA]) (fun b hb => pF_sA_ne hb)] at hP1
  exact hP1
theorem pg_astM (hC : Cx p s m args c cc own D cy ad tb) (hP : va_P D vwCl (pW cy ad S) H) (hS : va_S (pA ad s.heap.size) s.heap H locs) (hka : kd a = 10) {i : Int32} {v : Nat} (hkv : kd v = 0) (hin : vp_in i (ln a)) (hdg : decode cc pc = .ok (.aastore, 1))
    (kk : ∀ (H1 : Heap) (locs1 : List Loc), va_P D vwCl (pW cy ad (sQ S a i.toNatClampNeg v)) H1 → va_S (pA ad s.heap.size) s.heap H1 locs1 → W p l e R s m args below meth c H1 locs1 cells slots Q (F0 m (pc + 1) ls rest)) : W p l e R s m args below meth c H locs cells slots Q (F0 m pc ls (.ref (ad v) :: .int i :: .ref (ad a) :: rest)) := by
  obtain ⟨hx, hb, hts, hown, hK, hJ, hE⟩ := hC
  refine va_astq hx hb hK hP (pD hJ) hS a 2 v 0 (by rw [pW_get (kd_lt (by omega)), pF_mom hka]) (r := (RX0, TX0, 4)) rfl (by rw [pW_get (kd_lt (by omega)), pF_obj (by decide) hkv]) rfl hin hdg (fun H1 locs1 hP1 hD1 hS1 => kk H1 locs1 ?_ hS1)
  rw [pW_set (S' := sQ S a i.toNatClampNeg v) (by
    rw [pF_mom hka]
    have h1 : (fun j => some (ad (gQ (sQ S a i.toNatClampNeg v) a j))) = va_up (fun j => some (ad (gQ S a j))) i.toNatClampNeg (some (ad v)) := by
      funext j
      simp only [gQ, sQ, va_up, if_true]
      split <;> rfl
    rw [h1]) (fun b hb => pF_sQ_ne hb)] at hP1
  exact hP1
/-- a contract: from the pool S, with these arguments, it comes back with r and the pool S' -/
def Ct (l : Launch) (d : Nat) (y : MethodName) (bytes : ByteArray) (maxL : Nat) (ret : Option FieldType) (D : va_G) (cy : Nat → ClassId) (ad tb : Nat → Nat) (S S' : PSt) (av : List Value) (r : Option Value) : Prop :=
  ∀ sz : Nat, Met l y (wz y bytes maxL ret) (rmd d) (va_Pc av (fun U => U.heap.size = sz ∧ va_P D vwCl (pW cy ad S) U.heap ∧ va_K D vwCl (tys cy) U ∧ Ex ad tb U)) (fun _ st oc t => (oc = .returned r ∧ va_P D vwCl (pW cy ad S') t.heap) ∧ va_F (pA ad sz) st t) 0 0 (pA ad sz)
theorem tg_at (i : Nat) {w : Cond} (h : lw_tbl[i]? = some w) (hg : goodWord w = true) : w ∈ lw_tg := List.mem_filter.mpr ⟨List.mem_of_getElem? h, hg⟩
theorem lw_tg_good (y : MethodName) (bytes : ByteArray) (maxL : Nat) (ret : Option FieldType) (hc : Cond.code y bytes maxL ret ∈ lw_tg) : GoodIn lw_tg (wz y bytes maxL ret) := by
  intro w hw
  have h1 : w ∈ lw_tg := by
    rcases List.mem_cons.mp hw with h | h
    · rw [h]; exact hc
    · exact h
  exact ⟨h1, good_of_word (List.mem_filter.mp h1).2⟩
theorem pg_blind {sz : Nat} {av : List Value} : FrameBlind (va_Pc av (fun U => U.heap.size = sz ∧ va_P D vwCl (pW cy ad S) U.heap ∧ va_K D vwCl (tys cy) U ∧ Ex ad tb U)) := by
  intro a U g mk q
  obtain ⟨q0, q1, q2, q3, q4⟩ := q
  exact ⟨q0, q1, q2, va_K.moved (u := U) (U := U.calling g mk a) (Vm.Alike.refl U.vm) q3, q4.call⟩
theorem pg_call {d : Nat} {S' : PSt} {r : Option Value} {st0 : List Value} {sz : Nat} (hsz : H.size = sz) (hS : va_S (pA ad s.heap.size) s.heap H locs)
    (hr : va_Run p l e R s m args below meth c H locs cells slots 0 0 (F0 m pc ls st0) rest (fun (st : State) (oc : Outcome) (t : State) => (oc = .returned r ∧ va_P D vwCl (pW cy ad S') t.heap) ∧ va_F (pA ad sz) st t) (pA ad sz))
    (kk : ∀ (H1 : Heap) (locs1 : List Loc), va_P D vwCl (pW cy ad S') H1 → va_S (pA ad s.heap.size) s.heap H1 locs1 → W p l e R s m args below meth c H1 locs1 cells slots Q (F0 m (pc + 3) ls (r.toList ++ rest))) : W p l e R s m args below meth c H locs cells slots Q (F0 m pc ls st0) := by
  have hf : ∀ q, pA ad sz q → pA ad s.heap.size q := fun q h => pA_mono (by rw [← hsz]; exact hS.1) q h
  intro T hT X
  obtain ⟨v, st₀, t, T', L, h0, X', hL, e1, e2, ⟨⟨hv, hp⟩, hz, hk⟩, st⟩ := hr T hT X
  cases hv
  rw [h0] at hz hk
  obtain ⟨t2, a1, b1⟩ := kk T'.heap (locs ++ L) (by rw [e1]; exact hp)
    ⟨Nat.le_trans hS.1 (by rw [e1]; exact hz), fun q h1 h2 => by rw [e1, hk q (Nat.lt_of_lt_of_le h1 hS.1) (fun z => h2 (hf q z))]; exact hS.2.1 q h1 h2, fun q hq => by
      rcases List.mem_append.mp hq with h | h
      · exact hS.2.2 q h
      · exact hf _ (hL q h)⟩ T' rfl X'
  exact ⟨t2, st t2 a1, b1⟩
theorem pg_callV {d nL maxL n ci : Nat} {y : MethodName} {bytes : ByteArray} {ret : Option FieldType} {S' : PSt} {r : Option Value} {As : List Value} {C : String} {T : u_T} {N : Nat} (hC : Cx p s m args c cc own D cy ad tb) (hml : c.maxLocals = nL) (hP : va_P D vwCl (pW cy ad S) H) (hS : va_S (pA ad s.heap.size) s.heap H locs)
    (hM : Ct l d y bytes maxL ret D cy ad tb S S' (.ref (ad a) :: As) r) (hR : d + 1 ≤ R.frames ∧ 40 * (d + 1) + 40 ≤ R.locals ∧ R.cells = 0 ∧ R.slots = 0) (hz : cells = 0 ∧ slots = 0) (hL : maxL ≤ 21)
    (hc : vwCl[ci]? = some (C, T, N)) (hci : ci < 8) (hka : kd a = ci) {st0 st1 : List Value} (hs0 : st0 = As.reverse ++ .ref (ad a) :: rest) (hs1 : r.toList ++ rest = st1) (hw : Cond.methodLink own index y ∈ lw_tg ∧ Cond.instanceMethod y ∈ lw_tg ∧ Cond.selects C y y ∈ lw_tg ∧ Cond.initialized C ∈ lw_tg ∧ Cond.code y bytes maxL ret ∈ lw_tg)
    (hd : y.cls = C ∧ y.cls ≠ "java/lang/invoke/MethodHandle" ∧ y.cls ≠ "java/lang/invoke/VarHandle" ∧ (parseMethodDescriptor y.desc).map (fun d => d.parameters.length) = some n) (hn : As.length = n) (hls : ls.size = nL) (hst : (rest.map fun v => v.category).sum ≤ 8) (hdg : decode cc pc = .ok (.invokevirtual index, 3))
    (kk : ∀ (H1 : Heap) (locs1 : List Loc), va_P D vwCl (pW cy ad S') H1 → va_S (pA ad s.heap.size) s.heap H1 locs1 → W p l e R s m args below meth c H1 locs1 cells slots Q (F0 m (pc + 3) ls st1)) : W p l e R s m args below meth c H locs cells slots Q (F0 m pc ls st0) := by
  subst hs0; subst hs1
  have hC' := hC
  obtain ⟨hx, hb, hts, hown, hK, hJ, hE⟩ := hC
  obtain ⟨hR1, hR2, hR3, hR4⟩ := hR
  obtain ⟨hz1, hz2⟩ := hz
  have hG : GoodIn lw_tg (wsV own index C y (wz y bytes maxL ret)) := by
    intro w h
    unfold wsV at h
    rcases List.mem_append.mp h with h | h
    · have h1 : w ∈ lw_tg := by
        simp only [List.mem_cons, List.not_mem_nil, or_false] at h
        rcases h with h | h | h | h <;> subst h
        · exact hw.1
        · exact hw.2.1
        · exact hw.2.2.1
        · exact hw.2.2.2.1
      exact ⟨h1, good_of_word (List.mem_filter.mp h1).2⟩
    · exact lw_tg_good y bytes maxL ret hw.2.2.2.2 w h
  have hlt : a < NR := kd_lt (by omega)
  refine pg_call (d := d) (S' := S') (sz := H.size) rfl hS (va_runV (own := own) (C := C) (index := index) (bytes := bytes) (maxL := maxL) (ret := ret) (n := n) (As := As) (rest := rest) (b := ad a) ⟨hx, hb, hml, hown, hts⟩ (hM H.size) (cwV n hts hG rfl rfl rfl hd ⟨hR1, by show 8 + (maxL + 11) + (40 * d + 40) ≤ R.locals; omega⟩) ⟨pg_blind, va_recv hK hP hc (q0 := a) (by rw [pW_get hlt, pF_obj hci hka]), fun U hU hW => ⟨rfl, by rw [hU], by rw [hU]; exact hP, va_K.moved hW.alike hK, hE.go hS hU hW⟩⟩ rfl hn hls rfl (lv_room hst) hdg ⟨by omega, by omega⟩) kk
theorem pg_callS {d nL maxL n : Nat} {y : MethodName} {bytes : ByteArray} {ret : Option FieldType} {S' : PSt} {r : Option Value} {As : List Value} (hC : Cx p s m args c cc own D cy ad tb) (hml : c.maxLocals = nL) (hP : va_P D vwCl (pW cy ad S) H) (hS : va_S (pA ad s.heap.size) s.heap H locs)
    (hM : Ct l d y bytes maxL ret D cy ad tb S S' As r) (hR : d + 1 ≤ R.frames ∧ 40 * (d + 1) + 40 ≤ R.locals ∧ R.cells = 0 ∧ R.slots = 0) (hz : cells = 0 ∧ slots = 0) (hL : maxL ≤ 21)
    {st0 st1 : List Value} (hs0 : st0 = As.reverse ++ rest) (hs1 : r.toList ++ rest = st1) (hw : Cond.methodLink own index y ∈ lw_tg ∧ Cond.static y ∈ lw_tg ∧ Cond.initialized y.cls ∈ lw_tg ∧ Cond.code y bytes maxL ret ∈ lw_tg)
    (hd : y.cls ≠ "java/lang/invoke/MethodHandle" ∧ y.cls ≠ "java/lang/invoke/VarHandle" ∧ (parseMethodDescriptor y.desc).map (fun d => d.parameters.length) = some n) (hn : As.length = n) (hls : ls.size = nL) (hst : (rest.map fun v => v.category).sum ≤ 8) (hdg : decode cc pc = .ok (.invokestatic index, 3))
    (kk : ∀ (H1 : Heap) (locs1 : List Loc), va_P D vwCl (pW cy ad S') H1 → va_S (pA ad s.heap.size) s.heap H1 locs1 → W p l e R s m args below meth c H1 locs1 cells slots Q (F0 m (pc + 3) ls st1)) : W p l e R s m args below meth c H locs cells slots Q (F0 m pc ls st0) := by
  subst hs0; subst hs1
  obtain ⟨hx, hb, hts, hown, hK, hJ, hE⟩ := hC
  obtain ⟨hR1, hR2, hR3, hR4⟩ := hR
  obtain ⟨hz1, hz2⟩ := hz
  refine pg_call (d := d) (S' := S') (sz := H.size) rfl hS (va_runS (own := own) (index := index) (bytes := bytes) (maxL := maxL) (ret := ret) (n := n) (As := As) (rest := rest) ⟨hx, hb, hml, hown, hts⟩ (hM H.size) ⟨callB_of n hts (lw_tg_good y bytes maxL ret hw.2.2.2) rfl rfl rfl (hts _ hw.2.2.1) (hts _ hw.1) hd ⟨hR1, by show 8 + (maxL + 11) + (40 * d + 40) ≤ R.locals; omega⟩, hts _ hw.2.1⟩ ⟨pg_blind, fun U hU hW => ⟨rfl, by rw [hU], by rw [hU]; exact hP, va_K.moved hW.alike hK, hE.go hS hU hW⟩⟩ rfl hn hls rfl (lv_room hst) hdg ⟨by omega, by omega⟩) kk
theorem pg_callSN {d nL maxL n : Nat} {y : MethodName} {bytes : ByteArray} {ret : Option FieldType} {S' : PSt} {r : Option Value} {As : List Value} (hC : Cx p s m args c cc own D cy ad tb) (hml : c.maxLocals = nL) (hP : va_P D vwCl (pW cy ad S) H) (hS : va_S (pA ad s.heap.size) s.heap H locs)
    (hM : Ct l d y bytes maxL ret D cy ad tb S S' As r) (hR : d + 1 ≤ R.frames ∧ 40 * (d + 1) + 40 ≤ R.locals ∧ R.cells = 0 ∧ R.slots = 0) (hz : cells = 0 ∧ slots = 0) (hL : maxL ≤ 21)
    (hnw : (own, index, y) ∈ nestL) {st0 st1 : List Value} (hs0 : st0 = As.reverse ++ rest) (hs1 : r.toList ++ rest = st1) (hw : Cond.static y ∈ lw_tg ∧ Cond.initialized y.cls ∈ lw_tg ∧ Cond.code y bytes maxL ret ∈ lw_tg)
    (hd : y.cls ≠ "java/lang/invoke/MethodHandle" ∧ y.cls ≠ "java/lang/invoke/VarHandle" ∧ (parseMethodDescriptor y.desc).map (fun d => d.parameters.length) = some n) (hn : As.length = n) (hls : ls.size = nL) (hst : (rest.map fun v => v.category).sum ≤ 8) (hdg : decode cc pc = .ok (.invokestatic index, 3))
    (kk : ∀ (H1 : Heap) (locs1 : List Loc), va_P D vwCl (pW cy ad S') H1 → va_S (pA ad s.heap.size) s.heap H1 locs1 → W p l e R s m args below meth c H1 locs1 cells slots Q (F0 m (pc + 3) ls st1)) : W p l e R s m args below meth c H locs cells slots Q (F0 m pc ls st0) := by
  subst hs0; subst hs1
  obtain ⟨hx, hb, hts, hown, hK, hJ, hE⟩ := hC
  obtain ⟨hR1, hR2, hR3, hR4⟩ := hR
  obtain ⟨hz1, hz2⟩ := hz
  refine pg_call (d := d) (S' := S') (sz := H.size) rfl hS (va_runSN (own := own) (host := "BoatLeggers") (index := index) (bytes := bytes) (maxL := maxL) (ret := ret) (n := n) (As := As) (rest := rest) ⟨hx, hb, hml, hown, hts⟩ (hM H.size) ⟨va_cnB n hts (lw_tg_good y bytes maxL ret hw.2.2) rfl rfl rfl (hE.1 _ hnw) (hts _ hw.2.1) hd ⟨hR1, by show 8 + (maxL + 11) + (40 * d + 40) ≤ R.locals; omega⟩, hts _ hw.1, trivial⟩ ⟨pg_blind, fun U hU hW => ⟨rfl, by rw [hU], by rw [hU]; exact hP, va_K.moved hW.alike hK, hE.go hS hU hW⟩⟩ rfl hn hls rfl (lv_room hst) hdg ⟨by omega, by omega⟩) kk
theorem pg_sld (hC : Cx p s m args c cc own D cy ad tb) (hS : va_S (pA ad s.heap.size) s.heap H locs) {b : Nat} (hb4 : b < 4) {i : Int32} (hin : vp_in i (stL b)) (hdg : decode cc pc = .ok (.iaload, 1))
    (kk : W p l e R s m args below meth c H locs cells slots Q (F0 m (pc + 1) ls (.int (stV b i.toNatClampNeg) :: rest))) : W p l e R s m args below meth c H locs cells slots Q (F0 m pc ls (.int i :: .ref (tb b) :: rest)) := by
  obtain ⟨hx, hb, hts, hown, hK, hJ, hE⟩ := hC
  exact va_ti hx hb (hE.2 b hb4).2 hS hin rfl hdg kk
theorem pg_slen (hC : Cx p s m args c cc own D cy ad tb) (hS : va_S (pA ad s.heap.size) s.heap H locs) {b : Nat} (hb4 : b < 4) (hdg : decode cc pc = .ok (.arraylength, 1))
    (kk : W p l e R s m args below meth c H locs cells slots Q (F0 m (pc + 1) ls (.int (Int32.ofNat (stL b)) :: rest))) : W p l e R s m args below meth c H locs cells slots Q (F0 m pc ls (.ref (tb b) :: rest)) := by
  obtain ⟨hx, hb, hts, hown, hK, hJ, hE⟩ := hC
  exact va_tlen hx hb (hE.2 b hb4).2 hS rfl hdg kk
theorem pg_sget (hC : Cx p s m args c cc RX2 D cy ad tb) (hS : va_S (pA ad s.heap.size) s.heap H locs) {b : Nat} (hb4 : b < 4) (hlink : Cond.fieldLink RX2 index RX2 (stN b) "[I" ∈ lw_tg) (hdg : decode cc pc = .ok (.getstatic index, 3))
    (kk : W p l e R s m args below meth c H locs cells slots Q (F0 m (pc + 3) ls (.ref (tb b) :: rest))) : W p l e R s m args below meth c H locs cells slots Q (F0 m pc ls rest) := by
  obtain ⟨hx, hb, hts, hown, hK, hJ, hE⟩ := hC
  exact va_gets hx hb (hE.2 b hb4).1 hS hown (hts _ hlink) (fun _ h => h) hdg kk
theorem pg_alen (hC : Cx p s m args c cc own D cy ad tb) (hP : va_P D vwCl (pW cy ad S) H) (hka : kd a = 8) (hdg : decode cc pc = .ok (.arraylength, 1))
    (kk : W p l e R s m args below meth c H locs cells slots Q (F0 m (pc + 1) ls (.int (Int32.ofNat (ln a)) :: rest))) : W p l e R s m args below meth c H locs cells slots Q (F0 m pc ls (.ref (ad a) :: rest)) := by
  obtain ⟨hx, hb, hts, hown, hK, hJ, hE⟩ := hC
  exact va_alen hx hb hK hP a 0 (by rw [pW_get (kd_lt (by omega)), pF_int hka]) rfl rfl hdg kk
theorem pg_top {x y : Int32} (h : y = x) (k : W p l e R s m args below meth c H locs cells slots Q (F0 m pc ls (.int y :: rest))) : W p l e R s m args below meth c H locs cells slots Q (F0 m pc ls (.int x :: rest)) := h ▸ k
theorem pg_topr {x y : Nat} (h : y = x) (k : W p l e R s m args below meth c H locs cells slots Q (F0 m pc ls (.ref (ad y) :: rest))) : W p l e R s m args below meth c H locs cells slots Q (F0 m pc ls (.ref (ad x) :: rest)) := h ▸ k
theorem pg_max (hC : Cx p s m args c cc own D cy ad tb) (hml : c.maxLocals = ls.size) (hR : 1 ≤ R.frames ∧ 60 ≤ R.locals ∧ R.cells = 0 ∧ R.slots = 0) (hz : cells = 0 ∧ slots = 0) (hlink : Cond.methodLink own index Lib.Math.max.name ∈ lw_tg) (hst : (rest.map fun v => v.category).sum ≤ 8) {x y : Int32} (hdg : decode cc pc = .ok (.invokestatic index, 3))
    (kk : W p l e R s m args below meth c H locs cells slots Q (F0 m (pc + 3) ls (.int (if x < y then y else x) :: rest))) : W p l e R s m args below meth c H locs cells slots Q (F0 m pc ls (.int y :: .int x :: rest)) := by
  obtain ⟨hx, hb, hts, hown, hK, hJ, hE⟩ := hC
  exact va_mmax hx hb hml hown (hts _ hlink) (hts _ (tg_at 441 (by decide +kernel) rfl)) (hts _ (tg_at 68 (by decide +kernel) rfl)) (hts _ (tg_at 442 (by decide +kernel) rfl)) hR.1 (by omega) (by omega) (by omega) hdg kk
theorem pg_min (hC : Cx p s m args c cc own D cy ad tb) (hml : c.maxLocals = ls.size) (hR : 1 ≤ R.frames ∧ 60 ≤ R.locals ∧ R.cells = 0 ∧ R.slots = 0) (hz : cells = 0 ∧ slots = 0) (hlink : Cond.methodLink own index Lib.Math.min.name ∈ lw_tg) (hst : (rest.map fun v => v.category).sum ≤ 8) {x y : Int32} (hdg : decode cc pc = .ok (.invokestatic index, 3))
    (kk : W p l e R s m args below meth c H locs cells slots Q (F0 m (pc + 3) ls (.int (if y < x then y else x) :: rest))) : W p l e R s m args below meth c H locs cells slots Q (F0 m pc ls (.int y :: .int x :: rest)) := by
  obtain ⟨hx, hb, hts, hown, hK, hJ, hE⟩ := hC
  exact va_mmin hx hb hml hown (hts _ hlink) (hts _ (tg_at 390 (by decide +kernel) rfl)) (hts _ (tg_at 68 (by decide +kernel) rfl)) (hts _ (tg_at 391 (by decide +kernel) rfl)) hR.1 (by omega) (by omega) (by omega) hdg kk
/-- the end of a method: r, and the pool S' -/
def Qz (D : va_G) (cy : Nat → ClassId) (ad : Nat → Nat) (below : List Frame) (args : Array Value) (s : State) (S' : PSt) (r : Option Value) : State → Prop :=
  MQ below (fun _ st oc t => (oc = .returned r ∧ va_P D vwCl (pW cy ad S') t.heap) ∧ va_F (pA ad s.heap.size) st t) args s 0 0 (pA ad s.heap.size)
abbrev Mx (p : Program) (s : State) (m : MethodId) (args : Array Value) (c : Code) (meth : Method) (cc : ByteArray) (own : String) (nL : Nat) (ret : Option FieldType) (D : va_G) (cy : Nat → ClassId) (ad tb : Nat → Nat) : Prop :=
  Cx p s m args c cc own D cy ad tb ∧ c.maxLocals = nL ∧ meth.sig.returnType = ret ∧ meth.locks = false
theorem pg_iret {S' : PSt} {r v : Int32} (hC : Cx p s m args c cc own D cy ad tb) (hr : meth.sig.returnType = some .int) (hk : meth.locks = false) (hP : va_P D vwCl (pW cy ad S) H) (hS : va_S (pA ad s.heap.size) s.heap H locs) (hf : some (v, S) = some (r, S')) (hdg : decode cc pc = .ok (.ireturn, 1)) :
    W p l e R s m args below meth c H locs 0 0 (Qz D cy ad below args s S' (some (.int r))) (F0 m pc ls [.int v]) := by
  cases hf
  exact W.iret hC.1 hC.2.1 hr (fun t ht hW => ⟨⟨rfl, by rw [ht]; exact hP⟩, hS.F ht⟩) hS.2.2 hdg hk
theorem pg_zret {S' : PSt} {r v : Int32} (hC : Cx p s m args c cc own D cy ad tb) (hr : meth.sig.returnType = some .boolean) (hk : meth.locks = false) (hP : va_P D vwCl (pW cy ad S) H) (hS : va_S (pA ad s.heap.size) s.heap H locs) (hv : v = 0 ∨ v = 1) (hf : some (v, S) = some (r, S')) (hdg : decode cc pc = .ok (.ireturn, 1)) :
    W p l e R s m args below meth c H locs 0 0 (Qz D cy ad below args s S' (some (.int r))) (F0 m pc ls [.int v]) := by
  cases hf
  exact W.zret hC.1 hC.2.1 hr (by rcases hv with h | h <;> subst h <;> decide) (fun t ht hW => ⟨⟨rfl, by rw [ht]; exact hP⟩, hS.F ht⟩) hS.2.2 hdg hk
theorem pg_lret {S' : PSt} {r v : Int64} (hC : Cx p s m args c cc own D cy ad tb) (hr : meth.sig.returnType = some .long) (hk : meth.locks = false) (hP : va_P D vwCl (pW cy ad S) H) (hS : va_S (pA ad s.heap.size) s.heap H locs) (hf : some (v, S) = some (r, S')) (hdg : decode cc pc = .ok (.lreturn, 1)) :
    W p l e R s m args below meth c H locs 0 0 (Qz D cy ad below args s S' (some (.long r))) (F0 m pc ls [.long v]) := by
  cases hf
  exact W.lret hC.1 hC.2.1 hr (fun t ht hW => ⟨⟨rfl, by rw [ht]; exact hP⟩, hS.F ht⟩) hS.2.2 hdg hk
theorem pg_vret {S' : PSt} (hC : Cx p s m args c cc own D cy ad tb) (hr : meth.sig.returnType = none) (hk : meth.locks = false) (hP : va_P D vwCl (pW cy ad S) H) (hS : va_S (pA ad s.heap.size) s.heap H locs) (hf : some S = some S') (hdg : decode cc pc = .ok (.return_, 1)) :
    W p l e R s m args below meth c H locs 0 0 (Qz D cy ad below args s S' none) (F0 m pc ls []) := by
  cases hf
  exact W.vret hC.1 hC.2.1 hr (fun t ht hW => ⟨⟨rfl, by rw [ht]; exact hP⟩, hS.F ht⟩) hS.2.2 hdg hk
theorem pg_sret {S' : PSt} {b b' : Nat} (hC : Cx p s m args c cc own D cy ad tb) (hr : meth.sig.returnType = some (.array .int)) (hk : meth.locks = false) (hP : va_P D vwCl (pW cy ad S) H) (hS : va_S (pA ad s.heap.size) s.heap H locs) (hf : some (b, S) = some (b', S')) (hdg : decode cc pc = .ok (.areturn, 1)) :
    W p l e R s m args below meth c H locs 0 0 (Qz D cy ad below args s S' (some (.ref (tb b')))) (F0 m pc ls [.ref (tb b)]) := by
  cases hf
  exact W.aret hC.1 hC.2.1 hr (Or.inr ⟨_, rfl⟩) (Or.inr ⟨_, rfl⟩) (fun t ht hW => ⟨⟨rfl, by rw [ht]; exact hP⟩, hS.F ht⟩) hS.2.2 hdg hk
theorem Ct_of {d maxL : Nat} {y : MethodName} {bytes : ByteArray} {ret : Option FieldType} {S S' : PSt} {av : List Value} {r : Option Value} (hJ : pJ ad) (hy : plainName y.cls = true) (hn : (lg_sl av).length ≤ maxL)
    (body : ∀ (p : Program) (e : Env) (s : State) (m : MethodId) (below : List Frame) (meth : Method) (c : Code) (ls : Array Slot), Mx p s m av.toArray c meth bytes y.cls maxL ret D cy ad tb → va_P D vwCl (pW cy ad S) s.heap → va_S (pA ad s.heap.size) s.heap s.heap [] → lv_has ls maxL (lv_args 0 av) →
      W p l e (rmd d) s m av.toArray below meth c s.heap [] 0 0 (Qz D cy ad below av.toArray s S' r) (F0 m 0 ls [])) : Ct l d y bytes maxL ret D cy ad tb S S' av r := by
  intro sz
  refine Met.ofW (cc := bytes) (maxL := maxL) (ret := ret) hy rfl ?_
  intro p e s m args below meth c s₁ B hml hv
  obtain ⟨rfl, hsz, hP, hK, hE⟩ := hv
  subst hsz
  have hl := lv_entry av (n := maxL) hn
  rw [lg_entry_eq]
  exact body p e s m below meth c _ ⟨⟨B.exec, B.bytes, fun w h => atoms_spec (ws := wz y bytes maxL ret) B.pre w (List.mem_cons_of_mem _ h), findClass_of_methodNamed B.named, hK, hJ, hE⟩, hml, B.returns, B.notSynchronized⟩ hP va_S.rf hl
theorem in_tg {ws : List Cond} (h : ∀ w ∈ ws, w ∈ lw_tbl) (hg : ws.all goodWord = true) : ∀ w ∈ ws, w ∈ lw_tg := fun w hw => List.mem_filter.mpr ⟨h w hw, List.all_eq_true.mp hg w hw⟩
theorem jX0 : ∀ w ∈ u_ws RX0 TX0 4, w ∈ lw_tg := in_tg inX0 (by decide +kernel)
theorem jX1 : ∀ w ∈ u_ws RX1 TX1 6, w ∈ lw_tg := in_tg inX1 (by decide +kernel)
theorem jX2 : ∀ w ∈ u_ws RX2 TX2 9, w ∈ lw_tg := in_tg inX2 (by decide +kernel)
theorem jX3 : ∀ w ∈ u_ws RX3 TX3 11, w ∈ lw_tg := in_tg inX3 (by decide +kernel)
theorem jX4 : ∀ w ∈ u_ws RX4 TX4 14, w ∈ lw_tg := in_tg inX4 (by decide +kernel)
theorem jX5 : ∀ w ∈ u_ws RX5 TX5 3, w ∈ lw_tg := in_tg inX5 (by decide +kernel)
theorem jX6 : ∀ w ∈ u_ws RX6 TX6 11, w ∈ lw_tg := in_tg inX6 (by decide +kernel)
theorem jX7 : ∀ w ∈ u_ws RX7 TX7 34, w ∈ lw_tg := in_tg inX7 (by decide +kernel)
end BASE
end
section
section WORDS
variable {p : Program} {l : Launch} {e : Env} {R : Room} {s : State} {m : MethodId} {args : Array Value} {below : List Frame} {meth : Method} {c : Code} {H : Heap} {locs : List Loc} {cells slots : Nat} {Q : State → Prop}
variable {cc : ByteArray} {D : va_G} {cy : Nat → ClassId} {ad tb : Nat → Nat} {S S1 : PSt} {pc : Nat} {ls : Array Slot} {rest : List Value} {a : Nat}
theorem k_0 : kd 0 = 6 := rfl
theorem k_1 : kd 1 = 2 := rfl
theorem k_2 : kd 2 = 8 := rfl
theorem k_3 : kd 3 = 8 := rfl
theorem k_4 : kd 4 = 4 := rfl
theorem k_5 : kd 5 = 8 := rfl
theorem k_6 : kd 6 = 8 := rfl
theorem k_7 : kd 7 = 8 := rfl
theorem k_8 : kd 8 = 8 := rfl
theorem k_9 : kd 9 = 8 := rfl
theorem k_10 : kd 10 = 8 := rfl
theorem k_11 : kd 11 = 8 := rfl
theorem k_12 : kd 12 = 8 := rfl
theorem k_13 : kd 13 = 8 := rfl
theorem k_14 : kd 14 = 4 := rfl
theorem k_15 : kd 15 = 8 := rfl
theorem k_16 : kd 16 = 8 := rfl
theorem k_17 : kd 17 = 8 := rfl
theorem k_18 : kd 18 = 8 := rfl
theorem k_19 : kd 19 = 8 := rfl
theorem k_20 : kd 20 = 8 := rfl
theorem k_21 : kd 21 = 8 := rfl
theorem k_22 : kd 22 = 8 := rfl
theorem k_23 : kd 23 = 8 := rfl
theorem k_24 : kd 24 = 5 := rfl
theorem k_25 : kd 25 = 0 := rfl
theorem k_26 : kd 26 = 8 := rfl
theorem k_27 : kd 27 = 10 := rfl
theorem k_28 : kd 28 = 0 := rfl
theorem k_29 : kd 29 = 8 := rfl
theorem k_30 : kd 30 = 0 := rfl
theorem k_31 : kd 31 = 8 := rfl
theorem k_32 : kd 32 = 0 := rfl
theorem k_33 : kd 33 = 8 := rfl
theorem k_34 : kd 34 = 0 := rfl
theorem k_35 : kd 35 = 8 := rfl
theorem k_36 : kd 36 = 0 := rfl
theorem k_37 : kd 37 = 8 := rfl
theorem k_38 : kd 38 = 0 := rfl
theorem k_39 : kd 39 = 8 := rfl
theorem k_40 : kd 40 = 0 := rfl
theorem k_41 : kd 41 = 8 := rfl
theorem k_42 : kd 42 = 0 := rfl
theorem k_43 : kd 43 = 8 := rfl
theorem k_44 : kd 44 = 0 := rfl
theorem k_45 : kd 45 = 8 := rfl
theorem k_46 : kd 46 = 0 := rfl
theorem k_47 : kd 47 = 8 := rfl
theorem k_48 : kd 48 = 11 := rfl
theorem k_49 : kd 49 = 5 := rfl
theorem k_50 : kd 50 = 0 := rfl
theorem k_51 : kd 51 = 8 := rfl
theorem k_52 : kd 52 = 10 := rfl
theorem k_53 : kd 53 = 0 := rfl
theorem k_54 : kd 54 = 8 := rfl
theorem k_55 : kd 55 = 0 := rfl
theorem k_56 : kd 56 = 8 := rfl
theorem k_57 : kd 57 = 0 := rfl
theorem k_58 : kd 58 = 8 := rfl
theorem k_59 : kd 59 = 0 := rfl
theorem k_60 : kd 60 = 8 := rfl
theorem k_61 : kd 61 = 0 := rfl
theorem k_62 : kd 62 = 8 := rfl
theorem k_63 : kd 63 = 0 := rfl
theorem k_64 : kd 64 = 8 := rfl
theorem k_65 : kd 65 = 0 := rfl
theorem k_66 : kd 66 = 8 := rfl
theorem k_67 : kd 67 = 0 := rfl
theorem k_68 : kd 68 = 8 := rfl
theorem k_69 : kd 69 = 0 := rfl
theorem k_70 : kd 70 = 8 := rfl
theorem k_71 : kd 71 = 0 := rfl
theorem k_72 : kd 72 = 8 := rfl
theorem k_73 : kd 73 = 5 := rfl
theorem k_74 : kd 74 = 0 := rfl
theorem k_75 : kd 75 = 8 := rfl
theorem k_76 : kd 76 = 10 := rfl
theorem k_77 : kd 77 = 0 := rfl
theorem k_78 : kd 78 = 8 := rfl
theorem k_79 : kd 79 = 0 := rfl
theorem k_80 : kd 80 = 8 := rfl
theorem k_81 : kd 81 = 0 := rfl
theorem k_82 : kd 82 = 8 := rfl
theorem k_83 : kd 83 = 0 := rfl
theorem k_84 : kd 84 = 8 := rfl
theorem k_85 : kd 85 = 0 := rfl
theorem k_86 : kd 86 = 8 := rfl
theorem k_87 : kd 87 = 0 := rfl
theorem k_88 : kd 88 = 8 := rfl
theorem k_89 : kd 89 = 0 := rfl
theorem k_90 : kd 90 = 8 := rfl
theorem k_91 : kd 91 = 0 := rfl
theorem k_92 : kd 92 = 8 := rfl
theorem k_93 : kd 93 = 0 := rfl
theorem k_94 : kd 94 = 8 := rfl
theorem k_95 : kd 95 = 0 := rfl
theorem k_96 : kd 96 = 8 := rfl
theorem k_97 : kd 97 = 9 := rfl
theorem k_98 : kd 98 = 3 := rfl
theorem k_99 : kd 99 = 8 := rfl
theorem k_100 : kd 100 = 8 := rfl
theorem k_101 : kd 101 = 8 := rfl
theorem k_102 : kd 102 = 8 := rfl
theorem k_103 : kd 103 = 8 := rfl
theorem k_104 : kd 104 = 8 := rfl
theorem k_105 : kd 105 = 10 := rfl
theorem k_106 : kd 106 = 0 := rfl
theorem k_107 : kd 107 = 8 := rfl
theorem k_108 : kd 108 = 0 := rfl
theorem k_109 : kd 109 = 8 := rfl
theorem k_110 : kd 110 = 0 := rfl
theorem k_111 : kd 111 = 8 := rfl
theorem k_112 : kd 112 = 0 := rfl
theorem k_113 : kd 113 = 8 := rfl
theorem k_114 : kd 114 = 0 := rfl
theorem k_115 : kd 115 = 8 := rfl
theorem k_116 : kd 116 = 0 := rfl
theorem k_117 : kd 117 = 8 := rfl
theorem k_118 : kd 118 = 0 := rfl
theorem k_119 : kd 119 = 8 := rfl
theorem k_120 : kd 120 = 1 := rfl
theorem k_121 : kd 121 = 8 := rfl
theorem k_122 : kd 122 = 8 := rfl
theorem k_123 : kd 123 = 10 := rfl
theorem k_124 : kd 124 = 0 := rfl
theorem k_125 : kd 125 = 8 := rfl
theorem k_126 : kd 126 = 0 := rfl
theorem k_127 : kd 127 = 8 := rfl
theorem k_128 : kd 128 = 0 := rfl
theorem k_129 : kd 129 = 8 := rfl
theorem k_130 : kd 130 = 0 := rfl
theorem k_131 : kd 131 = 8 := rfl
theorem k_132 : kd 132 = 0 := rfl
theorem k_133 : kd 133 = 8 := rfl
theorem k_134 : kd 134 = 0 := rfl
theorem k_135 : kd 135 = 8 := rfl
theorem k_136 : kd 136 = 0 := rfl
theorem k_137 : kd 137 = 8 := rfl
theorem k_138 : kd 138 = 1 := rfl
theorem k_139 : kd 139 = 8 := rfl
theorem k_140 : kd 140 = 8 := rfl
theorem k_141 : kd 141 = 10 := rfl
theorem k_142 : kd 142 = 0 := rfl
theorem k_143 : kd 143 = 8 := rfl
theorem k_144 : kd 144 = 0 := rfl
theorem k_145 : kd 145 = 8 := rfl
theorem k_146 : kd 146 = 0 := rfl
theorem k_147 : kd 147 = 8 := rfl
theorem k_148 : kd 148 = 0 := rfl
theorem k_149 : kd 149 = 8 := rfl
theorem k_150 : kd 150 = 0 := rfl
theorem k_151 : kd 151 = 8 := rfl
theorem k_152 : kd 152 = 0 := rfl
theorem k_153 : kd 153 = 8 := rfl
theorem k_154 : kd 154 = 0 := rfl
theorem k_155 : kd 155 = 8 := rfl
theorem k_156 : kd 156 = 0 := rfl
theorem k_157 : kd 157 = 8 := rfl
theorem k_158 : kd 158 = 7 := rfl
theorem k_159 : kd 159 = 8 := rfl
theorem k_160 : kd 160 = 8 := rfl
theorem k_161 : kd 161 = 8 := rfl
theorem k_162 : kd 162 = 8 := rfl
theorem k_163 : kd 163 = 8 := rfl
theorem k_164 : kd 164 = 9 := rfl
theorem k_165 : kd 165 = 8 := rfl
theorem k_166 : kd 166 = 8 := rfl
theorem k_167 : kd 167 = 8 := rfl
theorem k_168 : kd 168 = 8 := rfl
theorem k_169 : kd 169 = 8 := rfl
theorem k_170 : kd 170 = 8 := rfl
theorem k_171 : kd 171 = 8 := rfl
theorem k_172 : kd 172 = 8 := rfl
theorem k_173 : kd 173 = 8 := rfl
theorem k_174 : kd 174 = 8 := rfl
theorem k_175 : kd 175 = 8 := rfl
theorem ko_0_1 {a : Nat} (h : kd a = 0) : kd (a + 1) = 8 := (show ∀ a, a < NR → kd a = 0 → kd (a + 1) = 8 by decide +kernel) a (kd_lt (by omega)) h
theorem ko_1_1 {a : Nat} (h : kd a = 1) : kd (a + 1) = 8 := (show ∀ a, a < NR → kd a = 1 → kd (a + 1) = 8 by decide +kernel) a (kd_lt (by omega)) h
theorem ko_1_2 {a : Nat} (h : kd a = 1) : kd (a + 2) = 8 := (show ∀ a, a < NR → kd a = 1 → kd (a + 2) = 8 by decide +kernel) a (kd_lt (by omega)) h
theorem ko_1_3 {a : Nat} (h : kd a = 1) : kd (a + 3) = 10 := (show ∀ a, a < NR → kd a = 1 → kd (a + 3) = 10 by decide +kernel) a (kd_lt (by omega)) h
theorem ko_2_1 {a : Nat} (h : kd a = 2) : kd (a + 1) = 8 := (show ∀ a, a < NR → kd a = 2 → kd (a + 1) = 8 by decide +kernel) a (kd_lt (by omega)) h
theorem ko_2_2 {a : Nat} (h : kd a = 2) : kd (a + 2) = 8 := (show ∀ a, a < NR → kd a = 2 → kd (a + 2) = 8 by decide +kernel) a (kd_lt (by omega)) h
theorem ko_3_1 {a : Nat} (h : kd a = 3) : kd (a + 1) = 8 := (show ∀ a, a < NR → kd a = 3 → kd (a + 1) = 8 by decide +kernel) a (kd_lt (by omega)) h
theorem ko_3_2 {a : Nat} (h : kd a = 3) : kd (a + 2) = 8 := (show ∀ a, a < NR → kd a = 3 → kd (a + 2) = 8 by decide +kernel) a (kd_lt (by omega)) h
theorem ko_3_3 {a : Nat} (h : kd a = 3) : kd (a + 3) = 8 := (show ∀ a, a < NR → kd a = 3 → kd (a + 3) = 8 by decide +kernel) a (kd_lt (by omega)) h
theorem ko_3_4 {a : Nat} (h : kd a = 3) : kd (a + 4) = 8 := (show ∀ a, a < NR → kd a = 3 → kd (a + 4) = 8 by decide +kernel) a (kd_lt (by omega)) h
theorem ko_3_5 {a : Nat} (h : kd a = 3) : kd (a + 5) = 8 := (show ∀ a, a < NR → kd a = 3 → kd (a + 5) = 8 by decide +kernel) a (kd_lt (by omega)) h
theorem ko_3_6 {a : Nat} (h : kd a = 3) : kd (a + 6) = 8 := (show ∀ a, a < NR → kd a = 3 → kd (a + 6) = 8 by decide +kernel) a (kd_lt (by omega)) h
theorem ko_3_7 {a : Nat} (h : kd a = 3) : kd (a + 7) = 10 := (show ∀ a, a < NR → kd a = 3 → kd (a + 7) = 10 by decide +kernel) a (kd_lt (by omega)) h
theorem ko_4_1 {a : Nat} (h : kd a = 4) : kd (a + 1) = 8 := (show ∀ a, a < NR → kd a = 4 → kd (a + 1) = 8 by decide +kernel) a (kd_lt (by omega)) h
theorem ko_4_2 {a : Nat} (h : kd a = 4) : kd (a + 2) = 8 := (show ∀ a, a < NR → kd a = 4 → kd (a + 2) = 8 by decide +kernel) a (kd_lt (by omega)) h
theorem ko_4_3 {a : Nat} (h : kd a = 4) : kd (a + 3) = 8 := (show ∀ a, a < NR → kd a = 4 → kd (a + 3) = 8 by decide +kernel) a (kd_lt (by omega)) h
theorem ko_4_4 {a : Nat} (h : kd a = 4) : kd (a + 4) = 8 := (show ∀ a, a < NR → kd a = 4 → kd (a + 4) = 8 by decide +kernel) a (kd_lt (by omega)) h
theorem ko_4_5 {a : Nat} (h : kd a = 4) : kd (a + 5) = 8 := (show ∀ a, a < NR → kd a = 4 → kd (a + 5) = 8 by decide +kernel) a (kd_lt (by omega)) h
theorem ko_4_6 {a : Nat} (h : kd a = 4) : kd (a + 6) = 8 := (show ∀ a, a < NR → kd a = 4 → kd (a + 6) = 8 by decide +kernel) a (kd_lt (by omega)) h
theorem ko_4_7 {a : Nat} (h : kd a = 4) : kd (a + 7) = 8 := (show ∀ a, a < NR → kd a = 4 → kd (a + 7) = 8 by decide +kernel) a (kd_lt (by omega)) h
theorem ko_4_8 {a : Nat} (h : kd a = 4) : kd (a + 8) = 8 := (show ∀ a, a < NR → kd a = 4 → kd (a + 8) = 8 by decide +kernel) a (kd_lt (by omega)) h
theorem ko_4_9 {a : Nat} (h : kd a = 4) : kd (a + 9) = 8 := (show ∀ a, a < NR → kd a = 4 → kd (a + 9) = 8 by decide +kernel) a (kd_lt (by omega)) h
theorem ko_5_1 {a : Nat} (h : kd a = 5) : kd (a + 1) = 0 := (show ∀ a, a < NR → kd a = 5 → kd (a + 1) = 0 by decide +kernel) a (kd_lt (by omega)) h
theorem ko_5_3 {a : Nat} (h : kd a = 5) : kd (a + 3) = 10 := (show ∀ a, a < NR → kd a = 5 → kd (a + 3) = 10 by decide +kernel) a (kd_lt (by omega)) h
theorem ko_6_1 {a : Nat} (h : kd a = 6) : kd (a + 1) = 2 := (show ∀ a, a < NR → kd a = 6 → kd (a + 1) = 2 by decide +kernel) a (kd_lt (by omega)) h
theorem ko_6_24 {a : Nat} (h : kd a = 6) : kd (a + 24) = 5 := (show ∀ a, a < NR → kd a = 6 → kd (a + 24) = 5 by decide +kernel) a (kd_lt (by omega)) h
theorem ko_6_48 {a : Nat} (h : kd a = 6) : kd (a + 48) = 11 := (show ∀ a, a < NR → kd a = 6 → kd (a + 48) = 11 by decide +kernel) a (kd_lt (by omega)) h
theorem ko_6_97 {a : Nat} (h : kd a = 6) : kd (a + 97) = 9 := (show ∀ a, a < NR → kd a = 6 → kd (a + 97) = 9 by decide +kernel) a (kd_lt (by omega)) h
theorem ko_6_98 {a : Nat} (h : kd a = 6) : kd (a + 98) = 3 := (show ∀ a, a < NR → kd a = 6 → kd (a + 98) = 3 by decide +kernel) a (kd_lt (by omega)) h
theorem ko_6_120 {a : Nat} (h : kd a = 6) : kd (a + 120) = 1 := (show ∀ a, a < NR → kd a = 6 → kd (a + 120) = 1 by decide +kernel) a (kd_lt (by omega)) h
theorem ko_6_138 {a : Nat} (h : kd a = 6) : kd (a + 138) = 1 := (show ∀ a, a < NR → kd a = 6 → kd (a + 138) = 1 by decide +kernel) a (kd_lt (by omega)) h
theorem ko_6_156 {a : Nat} (h : kd a = 6) : kd (a + 156) = 0 := (show ∀ a, a < NR → kd a = 6 → kd (a + 156) = 0 by decide +kernel) a (kd_lt (by omega)) h
theorem ko_7_1 {a : Nat} (h : kd a = 7) : kd (a + 1) = 8 := (show ∀ a, a < NR → kd a = 7 → kd (a + 1) = 8 by decide +kernel) a (kd_lt (by omega)) h
theorem ko_7_2 {a : Nat} (h : kd a = 7) : kd (a + 2) = 8 := (show ∀ a, a < NR → kd a = 7 → kd (a + 2) = 8 by decide +kernel) a (kd_lt (by omega)) h
theorem ko_7_3 {a : Nat} (h : kd a = 7) : kd (a + 3) = 8 := (show ∀ a, a < NR → kd a = 7 → kd (a + 3) = 8 by decide +kernel) a (kd_lt (by omega)) h
theorem ko_7_4 {a : Nat} (h : kd a = 7) : kd (a + 4) = 8 := (show ∀ a, a < NR → kd a = 7 → kd (a + 4) = 8 by decide +kernel) a (kd_lt (by omega)) h
theorem ko_7_5 {a : Nat} (h : kd a = 7) : kd (a + 5) = 8 := (show ∀ a, a < NR → kd a = 7 → kd (a + 5) = 8 by decide +kernel) a (kd_lt (by omega)) h
theorem ko_7_6 {a : Nat} (h : kd a = 7) : kd (a + 6) = 9 := (show ∀ a, a < NR → kd a = 7 → kd (a + 6) = 9 by decide +kernel) a (kd_lt (by omega)) h
theorem ko_7_7 {a : Nat} (h : kd a = 7) : kd (a + 7) = 8 := (show ∀ a, a < NR → kd a = 7 → kd (a + 7) = 8 by decide +kernel) a (kd_lt (by omega)) h
theorem ko_7_8 {a : Nat} (h : kd a = 7) : kd (a + 8) = 8 := (show ∀ a, a < NR → kd a = 7 → kd (a + 8) = 8 by decide +kernel) a (kd_lt (by omega)) h
theorem ko_7_9 {a : Nat} (h : kd a = 7) : kd (a + 9) = 8 := (show ∀ a, a < NR → kd a = 7 → kd (a + 9) = 8 by decide +kernel) a (kd_lt (by omega)) h
theorem ko_7_10 {a : Nat} (h : kd a = 7) : kd (a + 10) = 8 := (show ∀ a, a < NR → kd a = 7 → kd (a + 10) = 8 by decide +kernel) a (kd_lt (by omega)) h
theorem ko_7_11 {a : Nat} (h : kd a = 7) : kd (a + 11) = 8 := (show ∀ a, a < NR → kd a = 7 → kd (a + 11) = 8 by decide +kernel) a (kd_lt (by omega)) h
theorem ko_7_12 {a : Nat} (h : kd a = 7) : kd (a + 12) = 8 := (show ∀ a, a < NR → kd a = 7 → kd (a + 12) = 8 by decide +kernel) a (kd_lt (by omega)) h
theorem ko_7_13 {a : Nat} (h : kd a = 7) : kd (a + 13) = 8 := (show ∀ a, a < NR → kd a = 7 → kd (a + 13) = 8 by decide +kernel) a (kd_lt (by omega)) h
theorem ko_7_14 {a : Nat} (h : kd a = 7) : kd (a + 14) = 8 := (show ∀ a, a < NR → kd a = 7 → kd (a + 14) = 8 by decide +kernel) a (kd_lt (by omega)) h
theorem ko_7_15 {a : Nat} (h : kd a = 7) : kd (a + 15) = 8 := (show ∀ a, a < NR → kd a = 7 → kd (a + 15) = 8 by decide +kernel) a (kd_lt (by omega)) h
theorem ko_7_16 {a : Nat} (h : kd a = 7) : kd (a + 16) = 8 := (show ∀ a, a < NR → kd a = 7 → kd (a + 16) = 8 by decide +kernel) a (kd_lt (by omega)) h
theorem ko_7_17 {a : Nat} (h : kd a = 7) : kd (a + 17) = 8 := (show ∀ a, a < NR → kd a = 7 → kd (a + 17) = 8 by decide +kernel) a (kd_lt (by omega)) h
theorem gf_X0_9 (hC : Cx p s m args c cc RX0 D cy ad tb) (hP : va_P D vwCl (pW cy ad S) H) (hka : kd a = 0) {v : Value} (hv : Value.int (gI S 2 a) = v) (hdg : decode cc pc = .ok (.getfield 9, 3)) (kk : W p l e R s m args below meth c H locs cells slots Q (F0 m (pc + 3) ls (v :: rest))) : W p l e R s m args below meth c H locs cells slots Q (F0 m pc ls (.ref (ad a) :: rest)) := pg_get hC hP 0 2 rfl jX0 (by decide) (by decide) (q := (0, 2)) rfl (tg_at 210 (by decide +kernel) rfl) hka hv hdg kk
theorem gf_X0_15 (hC : Cx p s m args c cc RX0 D cy ad tb) (hP : va_P D vwCl (pW cy ad S) H) (hka : kd a = 0) {v : Value} (hv : Value.ref (ad (a + 1)) = v) (hdg : decode cc pc = .ok (.getfield 15, 3)) (kk : W p l e R s m args below meth c H locs cells slots Q (F0 m (pc + 3) ls (v :: rest))) : W p l e R s m args below meth c H locs cells slots Q (F0 m pc ls (.ref (ad a) :: rest)) := pg_get hC hP 0 3 rfl jX0 (by decide) (by decide) (q := (2, 1)) rfl (tg_at 212 (by decide +kernel) rfl) hka hv hdg kk
theorem gf_X0_19 (hC : Cx p s m args c cc RX0 D cy ad tb) (hP : va_P D vwCl (pW cy ad S) H) (hka : kd a = 0) {v : Value} (hv : Value.int (gI S 0 a) = v) (hdg : decode cc pc = .ok (.getfield 19, 3)) (kk : W p l e R s m args below meth c H locs cells slots Q (F0 m (pc + 3) ls (v :: rest))) : W p l e R s m args below meth c H locs cells slots Q (F0 m pc ls (.ref (ad a) :: rest)) := pg_get hC hP 0 0 rfl jX0 (by decide) (by decide) (q := (0, 0)) rfl (tg_at 203 (by decide +kernel) rfl) hka hv hdg kk
theorem gf_X0_22 (hC : Cx p s m args c cc RX0 D cy ad tb) (hP : va_P D vwCl (pW cy ad S) H) (hka : kd a = 0) {v : Value} (hv : Value.int (gI S 1 a) = v) (hdg : decode cc pc = .ok (.getfield 22, 3)) (kk : W p l e R s m args below meth c H locs cells slots Q (F0 m (pc + 3) ls (v :: rest))) : W p l e R s m args below meth c H locs cells slots Q (F0 m pc ls (.ref (ad a) :: rest)) := pg_get hC hP 0 1 rfl jX0 (by decide) (by decide) (q := (0, 1)) rfl (tg_at 206 (by decide +kernel) rfl) hka hv hdg kk
theorem gf_X0_25 (hC : Cx p s m args c cc RX0 D cy ad tb) (hP : va_P D vwCl (pW cy ad S) H) (hka : kd a = 4) {v : Value} (hv : Value.ref (ad (a + 2)) = v) (hdg : decode cc pc = .ok (.getfield 25, 3)) (kk : W p l e R s m args below meth c H locs cells slots Q (F0 m (pc + 3) ls (v :: rest))) : W p l e R s m args below meth c H locs cells slots Q (F0 m pc ls (.ref (ad a) :: rest)) := pg_get hC hP 4 6 rfl jX4 (by decide) (by decide) (q := (2, 2)) rfl (tg_at 143 (by decide +kernel) rfl) hka hv hdg kk
theorem gf_X0_30 (hC : Cx p s m args c cc RX0 D cy ad tb) (hP : va_P D vwCl (pW cy ad S) H) (hka : kd a = 4) {v : Value} (hv : Value.int (gI S 400 a) = v) (hdg : decode cc pc = .ok (.getfield 30, 3)) (kk : W p l e R s m args below meth c H locs cells slots Q (F0 m (pc + 3) ls (v :: rest))) : W p l e R s m args below meth c H locs cells slots Q (F0 m pc ls (.ref (ad a) :: rest)) := pg_get hC hP 4 0 rfl jX4 (by decide) (by decide) (q := (0, 400)) rfl (tg_at 122 (by decide +kernel) rfl) hka hv hdg kk
theorem gf_X0_37 (hC : Cx p s m args c cc RX0 D cy ad tb) (hP : va_P D vwCl (pW cy ad S) H) (hka : kd a = 4) {v : Value} (hv : Value.ref (ad (a + 3)) = v) (hdg : decode cc pc = .ok (.getfield 37, 3)) (kk : W p l e R s m args below meth c H locs cells slots Q (F0 m (pc + 3) ls (v :: rest))) : W p l e R s m args below meth c H locs cells slots Q (F0 m pc ls (.ref (ad a) :: rest)) := pg_get hC hP 4 7 rfl jX4 (by decide) (by decide) (q := (2, 3)) rfl (tg_at 147 (by decide +kernel) rfl) hka hv hdg kk
theorem gf_X0_52 (hC : Cx p s m args c cc RX0 D cy ad tb) (hP : va_P D vwCl (pW cy ad S) H) (hka : kd a = 4) {v : Value} (hv : Value.int (gI S 402 a) = v) (hdg : decode cc pc = .ok (.getfield 52, 3)) (kk : W p l e R s m args below meth c H locs cells slots Q (F0 m (pc + 3) ls (v :: rest))) : W p l e R s m args below meth c H locs cells slots Q (F0 m pc ls (.ref (ad a) :: rest)) := pg_get hC hP 4 2 rfl jX4 (by decide) (by decide) (q := (0, 402)) rfl (tg_at 132 (by decide +kernel) rfl) hka hv hdg kk
theorem gf_X0_55 (hC : Cx p s m args c cc RX0 D cy ad tb) (hP : va_P D vwCl (pW cy ad S) H) (hka : kd a = 4) {v : Value} (hv : Value.int (gI S 401 a) = v) (hdg : decode cc pc = .ok (.getfield 55, 3)) (kk : W p l e R s m args below meth c H locs cells slots Q (F0 m (pc + 3) ls (v :: rest))) : W p l e R s m args below meth c H locs cells slots Q (F0 m pc ls (.ref (ad a) :: rest)) := pg_get hC hP 4 1 rfl jX4 (by decide) (by decide) (q := (0, 401)) rfl (tg_at 129 (by decide +kernel) rfl) hka hv hdg kk
theorem gf_X1_9 (hC : Cx p s m args c cc RX1 D cy ad tb) (hP : va_P D vwCl (pW cy ad S) H) (hka : kd a = 1) {v : Value} (hv : Value.int (gI S 101 a) = v) (hdg : decode cc pc = .ok (.getfield 9, 3)) (kk : W p l e R s m args below meth c H locs cells slots Q (F0 m (pc + 3) ls (v :: rest))) : W p l e R s m args below meth c H locs cells slots Q (F0 m pc ls (.ref (ad a) :: rest)) := pg_get hC hP 1 1 rfl jX1 (by decide) (by decide) (q := (0, 101)) rfl (tg_at 295 (by decide +kernel) rfl) hka hv hdg kk
theorem gf_X1_15 (hC : Cx p s m args c cc RX1 D cy ad tb) (hP : va_P D vwCl (pW cy ad S) H) (hka : kd a = 1) {v : Value} (hv : Value.ref (ad (a + 1)) = v) (hdg : decode cc pc = .ok (.getfield 15, 3)) (kk : W p l e R s m args below meth c H locs cells slots Q (F0 m (pc + 3) ls (v :: rest))) : W p l e R s m args below meth c H locs cells slots Q (F0 m pc ls (.ref (ad a) :: rest)) := pg_get hC hP 1 2 rfl jX1 (by decide) (by decide) (q := (2, 1)) rfl (tg_at 297 (by decide +kernel) rfl) hka hv hdg kk
theorem gf_X1_19 (hC : Cx p s m args c cc RX1 D cy ad tb) (hP : va_P D vwCl (pW cy ad S) H) (hka : kd a = 1) {v : Value} (hv : Value.ref (ad (a + 2)) = v) (hdg : decode cc pc = .ok (.getfield 19, 3)) (kk : W p l e R s m args below meth c H locs cells slots Q (F0 m (pc + 3) ls (v :: rest))) : W p l e R s m args below meth c H locs cells slots Q (F0 m pc ls (.ref (ad a) :: rest)) := pg_get hC hP 1 4 rfl jX1 (by decide) (by decide) (q := (2, 2)) rfl (tg_at 300 (by decide +kernel) rfl) hka hv hdg kk
theorem gf_X1_24 (hC : Cx p s m args c cc RX1 D cy ad tb) (hP : va_P D vwCl (pW cy ad S) H) (hka : kd a = 1) {v : Value} (hv : Value.ref (ad (a + 3)) = v) (hdg : decode cc pc = .ok (.getfield 24, 3)) (kk : W p l e R s m args below meth c H locs cells slots Q (F0 m (pc + 3) ls (v :: rest))) : W p l e R s m args below meth c H locs cells slots Q (F0 m pc ls (.ref (ad a) :: rest)) := pg_get hC hP 1 5 rfl jX1 (by decide) (by decide) (q := (2, 3)) rfl (tg_at 301 (by decide +kernel) rfl) hka hv hdg kk
theorem gf_X1_28 (hC : Cx p s m args c cc RX1 D cy ad tb) (hP : va_P D vwCl (pW cy ad S) H) (hka : kd a = 1) {v : Value} (hv : Value.int (gI S 103 a) = v) (hdg : decode cc pc = .ok (.getfield 28, 3)) (kk : W p l e R s m args below meth c H locs cells slots Q (F0 m (pc + 3) ls (v :: rest))) : W p l e R s m args below meth c H locs cells slots Q (F0 m pc ls (.ref (ad a) :: rest)) := pg_get hC hP 1 3 rfl jX1 (by decide) (by decide) (q := (0, 103)) rfl (tg_at 299 (by decide +kernel) rfl) hka hv hdg kk
theorem gf_X1_36 (hC : Cx p s m args c cc RX1 D cy ad tb) (hP : va_P D vwCl (pW cy ad S) H) (hka : kd a = 4) {v : Value} (hv : Value.int (gI S 404 a) = v) (hdg : decode cc pc = .ok (.getfield 36, 3)) (kk : W p l e R s m args below meth c H locs cells slots Q (F0 m (pc + 3) ls (v :: rest))) : W p l e R s m args below meth c H locs cells slots Q (F0 m pc ls (.ref (ad a) :: rest)) := pg_get hC hP 4 4 rfl jX4 (by decide) (by decide) (q := (0, 404)) rfl (tg_at 138 (by decide +kernel) rfl) hka hv hdg kk
theorem gf_X1_41 (hC : Cx p s m args c cc RX1 D cy ad tb) (hP : va_P D vwCl (pW cy ad S) H) (hka : kd a = 0) {v : Value} (hv : Value.int (gI S 0 a) = v) (hdg : decode cc pc = .ok (.getfield 41, 3)) (kk : W p l e R s m args below meth c H locs cells slots Q (F0 m (pc + 3) ls (v :: rest))) : W p l e R s m args below meth c H locs cells slots Q (F0 m pc ls (.ref (ad a) :: rest)) := pg_get hC hP 0 0 rfl jX0 (by decide) (by decide) (q := (0, 0)) rfl (tg_at 204 (by decide +kernel) rfl) hka hv hdg kk
theorem gf_X1_44 (hC : Cx p s m args c cc RX1 D cy ad tb) (hP : va_P D vwCl (pW cy ad S) H) (hka : kd a = 4) {v : Value} (hv : Value.int (gI S 401 a) = v) (hdg : decode cc pc = .ok (.getfield 44, 3)) (kk : W p l e R s m args below meth c H locs cells slots Q (F0 m (pc + 3) ls (v :: rest))) : W p l e R s m args below meth c H locs cells slots Q (F0 m pc ls (.ref (ad a) :: rest)) := pg_get hC hP 4 1 rfl jX4 (by decide) (by decide) (q := (0, 401)) rfl (tg_at 125 (by decide +kernel) rfl) hka hv hdg kk
theorem gf_X1_51 (hC : Cx p s m args c cc RX1 D cy ad tb) (hP : va_P D vwCl (pW cy ad S) H) (hka : kd a = 0) {v : Value} (hv : Value.int (gI S 1 a) = v) (hdg : decode cc pc = .ok (.getfield 51, 3)) (kk : W p l e R s m args below meth c H locs cells slots Q (F0 m (pc + 3) ls (v :: rest))) : W p l e R s m args below meth c H locs cells slots Q (F0 m pc ls (.ref (ad a) :: rest)) := pg_get hC hP 0 1 rfl jX0 (by decide) (by decide) (q := (0, 1)) rfl (tg_at 207 (by decide +kernel) rfl) hka hv hdg kk
theorem gf_X1_62 (hC : Cx p s m args c cc RX1 D cy ad tb) (hP : va_P D vwCl (pW cy ad S) H) (hka : kd a = 4) {v : Value} (hv : Value.ref (ad (a + 7)) = v) (hdg : decode cc pc = .ok (.getfield 62, 3)) (kk : W p l e R s m args below meth c H locs cells slots Q (F0 m (pc + 3) ls (v :: rest))) : W p l e R s m args below meth c H locs cells slots Q (F0 m pc ls (.ref (ad a) :: rest)) := pg_get hC hP 4 11 rfl jX4 (by decide) (by decide) (q := (2, 7)) rfl (tg_at 155 (by decide +kernel) rfl) hka hv hdg kk
theorem gf_X1_80 (hC : Cx p s m args c cc RX1 D cy ad tb) (hP : va_P D vwCl (pW cy ad S) H) (hka : kd a = 4) {v : Value} (hv : Value.ref (ad (a + 8)) = v) (hdg : decode cc pc = .ok (.getfield 80, 3)) (kk : W p l e R s m args below meth c H locs cells slots Q (F0 m (pc + 3) ls (v :: rest))) : W p l e R s m args below meth c H locs cells slots Q (F0 m pc ls (.ref (ad a) :: rest)) := pg_get hC hP 4 12 rfl jX4 (by decide) (by decide) (q := (2, 8)) rfl (tg_at 158 (by decide +kernel) rfl) hka hv hdg kk
theorem gf_X2_9 (hC : Cx p s m args c cc RX2 D cy ad tb) (hP : va_P D vwCl (pW cy ad S) H) (hka : kd a = 2) {v : Value} (hv : Value.ref (ad (a + 1)) = v) (hdg : decode cc pc = .ok (.getfield 9, 3)) (kk : W p l e R s m args below meth c H locs cells slots Q (F0 m (pc + 3) ls (v :: rest))) : W p l e R s m args below meth c H locs cells slots Q (F0 m pc ls (.ref (ad a) :: rest)) := pg_get hC hP 2 1 rfl jX2 (by decide) (by decide) (q := (2, 1)) rfl (tg_at 85 (by decide +kernel) rfl) hka hv hdg kk
theorem gf_X2_15 (hC : Cx p s m args c cc RX2 D cy ad tb) (hP : va_P D vwCl (pW cy ad S) H) (hka : kd a = 2) {v : Value} (hv : Value.ref (ad (a + 2)) = v) (hdg : decode cc pc = .ok (.getfield 15, 3)) (kk : W p l e R s m args below meth c H locs cells slots Q (F0 m (pc + 3) ls (v :: rest))) : W p l e R s m args below meth c H locs cells slots Q (F0 m pc ls (.ref (ad a) :: rest)) := pg_get hC hP 2 8 rfl jX2 (by decide) (by decide) (q := (2, 2)) rfl (tg_at 93 (by decide +kernel) rfl) hka hv hdg kk
theorem gf_X2_23 (hC : Cx p s m args c cc RX2 D cy ad tb) (hP : va_P D vwCl (pW cy ad S) H) (hka : kd a = 2) {v : Value} (hv : Value.int (gI S 205 a) = v) (hdg : decode cc pc = .ok (.getfield 23, 3)) (kk : W p l e R s m args below meth c H locs cells slots Q (F0 m (pc + 3) ls (v :: rest))) : W p l e R s m args below meth c H locs cells slots Q (F0 m pc ls (.ref (ad a) :: rest)) := pg_get hC hP 2 5 rfl jX2 (by decide) (by decide) (q := (0, 205)) rfl (tg_at 90 (by decide +kernel) rfl) hka hv hdg kk
theorem gf_X2_27 (hC : Cx p s m args c cc RX2 D cy ad tb) (hP : va_P D vwCl (pW cy ad S) H) (hka : kd a = 2) {v : Value} (hv : Value.int (gI S 206 a) = v) (hdg : decode cc pc = .ok (.getfield 27, 3)) (kk : W p l e R s m args below meth c H locs cells slots Q (F0 m (pc + 3) ls (v :: rest))) : W p l e R s m args below meth c H locs cells slots Q (F0 m pc ls (.ref (ad a) :: rest)) := pg_get hC hP 2 6 rfl jX2 (by decide) (by decide) (q := (0, 206)) rfl (tg_at 91 (by decide +kernel) rfl) hka hv hdg kk
theorem gf_X2_31 (hC : Cx p s m args c cc RX2 D cy ad tb) (hP : va_P D vwCl (pW cy ad S) H) (hka : kd a = 2) {v : Value} (hv : Value.int (gI S 207 a) = v) (hdg : decode cc pc = .ok (.getfield 31, 3)) (kk : W p l e R s m args below meth c H locs cells slots Q (F0 m (pc + 3) ls (v :: rest))) : W p l e R s m args below meth c H locs cells slots Q (F0 m pc ls (.ref (ad a) :: rest)) := pg_get hC hP 2 7 rfl jX2 (by decide) (by decide) (q := (0, 207)) rfl (tg_at 92 (by decide +kernel) rfl) hka hv hdg kk
theorem gf_X2_37 (hC : Cx p s m args c cc RX2 D cy ad tb) (hP : va_P D vwCl (pW cy ad S) H) (hka : kd a = 2) {v : Value} (hv : Value.int (gI S 202 a) = v) (hdg : decode cc pc = .ok (.getfield 37, 3)) (kk : W p l e R s m args below meth c H locs cells slots Q (F0 m (pc + 3) ls (v :: rest))) : W p l e R s m args below meth c H locs cells slots Q (F0 m pc ls (.ref (ad a) :: rest)) := pg_get hC hP 2 2 rfl jX2 (by decide) (by decide) (q := (0, 202)) rfl (tg_at 87 (by decide +kernel) rfl) hka hv hdg kk
theorem gf_X2_44 (hC : Cx p s m args c cc RX2 D cy ad tb) (hP : va_P D vwCl (pW cy ad S) H) (hka : kd a = 2) {v : Value} (hv : Value.int (gI S 203 a) = v) (hdg : decode cc pc = .ok (.getfield 44, 3)) (kk : W p l e R s m args below meth c H locs cells slots Q (F0 m (pc + 3) ls (v :: rest))) : W p l e R s m args below meth c H locs cells slots Q (F0 m pc ls (.ref (ad a) :: rest)) := pg_get hC hP 2 3 rfl jX2 (by decide) (by decide) (q := (0, 203)) rfl (tg_at 88 (by decide +kernel) rfl) hka hv hdg kk
theorem gf_X2_50 (hC : Cx p s m args c cc RX2 D cy ad tb) (hP : va_P D vwCl (pW cy ad S) H) (hka : kd a = 2) {v : Value} (hv : Value.int (gI S 204 a) = v) (hdg : decode cc pc = .ok (.getfield 50, 3)) (kk : W p l e R s m args below meth c H locs cells slots Q (F0 m (pc + 3) ls (v :: rest))) : W p l e R s m args below meth c H locs cells slots Q (F0 m pc ls (.ref (ad a) :: rest)) := pg_get hC hP 2 4 rfl jX2 (by decide) (by decide) (q := (0, 204)) rfl (tg_at 89 (by decide +kernel) rfl) hka hv hdg kk
theorem gf_X2_69 (hC : Cx p s m args c cc RX2 D cy ad tb) (hP : va_P D vwCl (pW cy ad S) H) (hka : kd a = 4) {v : Value} (hv : Value.int (gI S 400 a) = v) (hdg : decode cc pc = .ok (.getfield 69, 3)) (kk : W p l e R s m args below meth c H locs cells slots Q (F0 m (pc + 3) ls (v :: rest))) : W p l e R s m args below meth c H locs cells slots Q (F0 m pc ls (.ref (ad a) :: rest)) := pg_get hC hP 4 0 rfl jX4 (by decide) (by decide) (q := (0, 400)) rfl (tg_at 121 (by decide +kernel) rfl) hka hv hdg kk
theorem gf_X2_72 (hC : Cx p s m args c cc RX2 D cy ad tb) (hP : va_P D vwCl (pW cy ad S) H) (hka : kd a = 4) {v : Value} (hv : Value.int (gI S 401 a) = v) (hdg : decode cc pc = .ok (.getfield 72, 3)) (kk : W p l e R s m args below meth c H locs cells slots Q (F0 m (pc + 3) ls (v :: rest))) : W p l e R s m args below meth c H locs cells slots Q (F0 m pc ls (.ref (ad a) :: rest)) := pg_get hC hP 4 1 rfl jX4 (by decide) (by decide) (q := (0, 401)) rfl (tg_at 126 (by decide +kernel) rfl) hka hv hdg kk
theorem gf_X2_101 (hC : Cx p s m args c cc RX2 D cy ad tb) (hP : va_P D vwCl (pW cy ad S) H) (hka : kd a = 2) {v : Value} (hv : Value.int (gI S 200 a) = v) (hdg : decode cc pc = .ok (.getfield 101, 3)) (kk : W p l e R s m args below meth c H locs cells slots Q (F0 m (pc + 3) ls (v :: rest))) : W p l e R s m args below meth c H locs cells slots Q (F0 m pc ls (.ref (ad a) :: rest)) := pg_get hC hP 2 0 rfl jX2 (by decide) (by decide) (q := (0, 200)) rfl (tg_at 84 (by decide +kernel) rfl) hka hv hdg kk
theorem gf_X3_9 (hC : Cx p s m args c cc RX3 D cy ad tb) (hP : va_P D vwCl (pW cy ad S) H) (hka : kd a = 3) {v : Value} (hv : Value.ref (ad (a + 1)) = v) (hdg : decode cc pc = .ok (.getfield 9, 3)) (kk : W p l e R s m args below meth c H locs cells slots Q (F0 m (pc + 3) ls (v :: rest))) : W p l e R s m args below meth c H locs cells slots Q (F0 m pc ls (.ref (ad a) :: rest)) := pg_get hC hP 3 3 rfl jX3 (by decide) (by decide) (q := (2, 1)) rfl (tg_at 251 (by decide +kernel) rfl) hka hv hdg kk
theorem gf_X3_15 (hC : Cx p s m args c cc RX3 D cy ad tb) (hP : va_P D vwCl (pW cy ad S) H) (hka : kd a = 3) {v : Value} (hv : Value.ref (ad (a + 2)) = v) (hdg : decode cc pc = .ok (.getfield 15, 3)) (kk : W p l e R s m args below meth c H locs cells slots Q (F0 m (pc + 3) ls (v :: rest))) : W p l e R s m args below meth c H locs cells slots Q (F0 m pc ls (.ref (ad a) :: rest)) := pg_get hC hP 3 4 rfl jX3 (by decide) (by decide) (q := (2, 2)) rfl (tg_at 253 (by decide +kernel) rfl) hka hv hdg kk
theorem gf_X3_18 (hC : Cx p s m args c cc RX3 D cy ad tb) (hP : va_P D vwCl (pW cy ad S) H) (hka : kd a = 3) {v : Value} (hv : Value.ref (ad (a + 3)) = v) (hdg : decode cc pc = .ok (.getfield 18, 3)) (kk : W p l e R s m args below meth c H locs cells slots Q (F0 m (pc + 3) ls (v :: rest))) : W p l e R s m args below meth c H locs cells slots Q (F0 m pc ls (.ref (ad a) :: rest)) := pg_get hC hP 3 5 rfl jX3 (by decide) (by decide) (q := (2, 3)) rfl (tg_at 255 (by decide +kernel) rfl) hka hv hdg kk
theorem gf_X3_21 (hC : Cx p s m args c cc RX3 D cy ad tb) (hP : va_P D vwCl (pW cy ad S) H) (hka : kd a = 3) {v : Value} (hv : Value.ref (ad (a + 4)) = v) (hdg : decode cc pc = .ok (.getfield 21, 3)) (kk : W p l e R s m args below meth c H locs cells slots Q (F0 m (pc + 3) ls (v :: rest))) : W p l e R s m args below meth c H locs cells slots Q (F0 m pc ls (.ref (ad a) :: rest)) := pg_get hC hP 3 6 rfl jX3 (by decide) (by decide) (q := (2, 4)) rfl (tg_at 256 (by decide +kernel) rfl) hka hv hdg kk
theorem gf_X3_24 (hC : Cx p s m args c cc RX3 D cy ad tb) (hP : va_P D vwCl (pW cy ad S) H) (hka : kd a = 3) {v : Value} (hv : Value.ref (ad (a + 5)) = v) (hdg : decode cc pc = .ok (.getfield 24, 3)) (kk : W p l e R s m args below meth c H locs cells slots Q (F0 m (pc + 3) ls (v :: rest))) : W p l e R s m args below meth c H locs cells slots Q (F0 m pc ls (.ref (ad a) :: rest)) := pg_get hC hP 3 7 rfl jX3 (by decide) (by decide) (q := (2, 5)) rfl (tg_at 257 (by decide +kernel) rfl) hka hv hdg kk
theorem gf_X3_27 (hC : Cx p s m args c cc RX3 D cy ad tb) (hP : va_P D vwCl (pW cy ad S) H) (hka : kd a = 3) {v : Value} (hv : Value.ref (ad (a + 6)) = v) (hdg : decode cc pc = .ok (.getfield 27, 3)) (kk : W p l e R s m args below meth c H locs cells slots Q (F0 m (pc + 3) ls (v :: rest))) : W p l e R s m args below meth c H locs cells slots Q (F0 m pc ls (.ref (ad a) :: rest)) := pg_get hC hP 3 9 rfl jX3 (by decide) (by decide) (q := (2, 6)) rfl (tg_at 259 (by decide +kernel) rfl) hka hv hdg kk
theorem gf_X3_32 (hC : Cx p s m args c cc RX3 D cy ad tb) (hP : va_P D vwCl (pW cy ad S) H) (hka : kd a = 3) {v : Value} (hv : Value.ref (ad (a + 7)) = v) (hdg : decode cc pc = .ok (.getfield 32, 3)) (kk : W p l e R s m args below meth c H locs cells slots Q (F0 m (pc + 3) ls (v :: rest))) : W p l e R s m args below meth c H locs cells slots Q (F0 m pc ls (.ref (ad a) :: rest)) := pg_get hC hP 3 10 rfl jX3 (by decide) (by decide) (q := (2, 7)) rfl (tg_at 260 (by decide +kernel) rfl) hka hv hdg kk
theorem gf_X3_37 (hC : Cx p s m args c cc RX3 D cy ad tb) (hP : va_P D vwCl (pW cy ad S) H) (hka : kd a = 3) {v : Value} (hv : Value.int (gI S 300 a) = v) (hdg : decode cc pc = .ok (.getfield 37, 3)) (kk : W p l e R s m args below meth c H locs cells slots Q (F0 m (pc + 3) ls (v :: rest))) : W p l e R s m args below meth c H locs cells slots Q (F0 m pc ls (.ref (ad a) :: rest)) := pg_get hC hP 3 0 rfl jX3 (by decide) (by decide) (q := (0, 300)) rfl (tg_at 245 (by decide +kernel) rfl) hka hv hdg kk
theorem gf_X3_41 (hC : Cx p s m args c cc RX3 D cy ad tb) (hP : va_P D vwCl (pW cy ad S) H) (hka : kd a = 3) {v : Value} (hv : Value.int (gI S 301 a) = v) (hdg : decode cc pc = .ok (.getfield 41, 3)) (kk : W p l e R s m args below meth c H locs cells slots Q (F0 m (pc + 3) ls (v :: rest))) : W p l e R s m args below meth c H locs cells slots Q (F0 m pc ls (.ref (ad a) :: rest)) := pg_get hC hP 3 1 rfl jX3 (by decide) (by decide) (q := (0, 301)) rfl (tg_at 247 (by decide +kernel) rfl) hka hv hdg kk
theorem gf_X3_45 (hC : Cx p s m args c cc RX3 D cy ad tb) (hP : va_P D vwCl (pW cy ad S) H) (hka : kd a = 3) {v : Value} (hv : Value.int (gI S 302 a) = v) (hdg : decode cc pc = .ok (.getfield 45, 3)) (kk : W p l e R s m args below meth c H locs cells slots Q (F0 m (pc + 3) ls (v :: rest))) : W p l e R s m args below meth c H locs cells slots Q (F0 m pc ls (.ref (ad a) :: rest)) := pg_get hC hP 3 2 rfl jX3 (by decide) (by decide) (q := (0, 302)) rfl (tg_at 249 (by decide +kernel) rfl) hka hv hdg kk
theorem gf_X3_59 (hC : Cx p s m args c cc RX3 D cy ad tb) (hP : va_P D vwCl (pW cy ad S) H) (hka : kd a = 3) {v : Value} (hv : Value.int (gI S 308 a) = v) (hdg : decode cc pc = .ok (.getfield 59, 3)) (kk : W p l e R s m args below meth c H locs cells slots Q (F0 m (pc + 3) ls (v :: rest))) : W p l e R s m args below meth c H locs cells slots Q (F0 m pc ls (.ref (ad a) :: rest)) := pg_get hC hP 3 8 rfl jX3 (by decide) (by decide) (q := (0, 308)) rfl (tg_at 258 (by decide +kernel) rfl) hka hv hdg kk
theorem gf_X3_68 (hC : Cx p s m args c cc RX3 D cy ad tb) (hP : va_P D vwCl (pW cy ad S) H) (hka : kd a = 4) {v : Value} (hv : Value.int (gI S 401 a) = v) (hdg : decode cc pc = .ok (.getfield 68, 3)) (kk : W p l e R s m args below meth c H locs cells slots Q (F0 m (pc + 3) ls (v :: rest))) : W p l e R s m args below meth c H locs cells slots Q (F0 m pc ls (.ref (ad a) :: rest)) := pg_get hC hP 4 1 rfl jX4 (by decide) (by decide) (q := (0, 401)) rfl (tg_at 127 (by decide +kernel) rfl) hka hv hdg kk
theorem gf_X3_76 (hC : Cx p s m args c cc RX3 D cy ad tb) (hP : va_P D vwCl (pW cy ad S) H) (hka : kd a = 4) {v : Value} (hv : Value.int (gI S 404 a) = v) (hdg : decode cc pc = .ok (.getfield 76, 3)) (kk : W p l e R s m args below meth c H locs cells slots Q (F0 m (pc + 3) ls (v :: rest))) : W p l e R s m args below meth c H locs cells slots Q (F0 m pc ls (.ref (ad a) :: rest)) := pg_get hC hP 4 4 rfl jX4 (by decide) (by decide) (q := (0, 404)) rfl (tg_at 139 (by decide +kernel) rfl) hka hv hdg kk
theorem gf_X3_79 (hC : Cx p s m args c cc RX3 D cy ad tb) (hP : va_P D vwCl (pW cy ad S) H) (hka : kd a = 4) {v : Value} (hv : Value.ref (ad (a + 7)) = v) (hdg : decode cc pc = .ok (.getfield 79, 3)) (kk : W p l e R s m args below meth c H locs cells slots Q (F0 m (pc + 3) ls (v :: rest))) : W p l e R s m args below meth c H locs cells slots Q (F0 m pc ls (.ref (ad a) :: rest)) := pg_get hC hP 4 11 rfl jX4 (by decide) (by decide) (q := (2, 7)) rfl (tg_at 156 (by decide +kernel) rfl) hka hv hdg kk
theorem gf_X3_82 (hC : Cx p s m args c cc RX3 D cy ad tb) (hP : va_P D vwCl (pW cy ad S) H) (hka : kd a = 0) {v : Value} (hv : Value.int (gI S 1 a) = v) (hdg : decode cc pc = .ok (.getfield 82, 3)) (kk : W p l e R s m args below meth c H locs cells slots Q (F0 m (pc + 3) ls (v :: rest))) : W p l e R s m args below meth c H locs cells slots Q (F0 m pc ls (.ref (ad a) :: rest)) := pg_get hC hP 0 1 rfl jX0 (by decide) (by decide) (q := (0, 1)) rfl (tg_at 208 (by decide +kernel) rfl) hka hv hdg kk
theorem gf_X3_100 (hC : Cx p s m args c cc RX3 D cy ad tb) (hP : va_P D vwCl (pW cy ad S) H) (hka : kd a = 4) {v : Value} (hv : Value.ref (ad (a + 8)) = v) (hdg : decode cc pc = .ok (.getfield 100, 3)) (kk : W p l e R s m args below meth c H locs cells slots Q (F0 m (pc + 3) ls (v :: rest))) : W p l e R s m args below meth c H locs cells slots Q (F0 m pc ls (.ref (ad a) :: rest)) := pg_get hC hP 4 12 rfl jX4 (by decide) (by decide) (q := (2, 8)) rfl (tg_at 159 (by decide +kernel) rfl) hka hv hdg kk
theorem gf_X3_103 (hC : Cx p s m args c cc RX3 D cy ad tb) (hP : va_P D vwCl (pW cy ad S) H) (hka : kd a = 4) {v : Value} (hv : Value.ref (ad (a + 9)) = v) (hdg : decode cc pc = .ok (.getfield 103, 3)) (kk : W p l e R s m args below meth c H locs cells slots Q (F0 m (pc + 3) ls (v :: rest))) : W p l e R s m args below meth c H locs cells slots Q (F0 m pc ls (.ref (ad a) :: rest)) := pg_get hC hP 4 13 rfl jX4 (by decide) (by decide) (q := (2, 9)) rfl (tg_at 161 (by decide +kernel) rfl) hka hv hdg kk
theorem gf_X4_9 (hC : Cx p s m args c cc RX4 D cy ad tb) (hP : va_P D vwCl (pW cy ad S) H) (hka : kd a = 4) {v : Value} (hv : Value.int (gI S 402 a) = v) (hdg : decode cc pc = .ok (.getfield 9, 3)) (kk : W p l e R s m args below meth c H locs cells slots Q (F0 m (pc + 3) ls (v :: rest))) : W p l e R s m args below meth c H locs cells slots Q (F0 m pc ls (.ref (ad a) :: rest)) := pg_get hC hP 4 2 rfl jX4 (by decide) (by decide) (q := (0, 402)) rfl (tg_at 130 (by decide +kernel) rfl) hka hv hdg kk
theorem gf_X4_15 (hC : Cx p s m args c cc RX4 D cy ad tb) (hP : va_P D vwCl (pW cy ad S) H) (hka : kd a = 4) {v : Value} (hv : Value.ref (ad (a + 1)) = v) (hdg : decode cc pc = .ok (.getfield 15, 3)) (kk : W p l e R s m args below meth c H locs cells slots Q (F0 m (pc + 3) ls (v :: rest))) : W p l e R s m args below meth c H locs cells slots Q (F0 m pc ls (.ref (ad a) :: rest)) := pg_get hC hP 4 5 rfl jX4 (by decide) (by decide) (q := (2, 1)) rfl (tg_at 140 (by decide +kernel) rfl) hka hv hdg kk
theorem gf_X4_19 (hC : Cx p s m args c cc RX4 D cy ad tb) (hP : va_P D vwCl (pW cy ad S) H) (hka : kd a = 4) {v : Value} (hv : Value.ref (ad (a + 2)) = v) (hdg : decode cc pc = .ok (.getfield 19, 3)) (kk : W p l e R s m args below meth c H locs cells slots Q (F0 m (pc + 3) ls (v :: rest))) : W p l e R s m args below meth c H locs cells slots Q (F0 m pc ls (.ref (ad a) :: rest)) := pg_get hC hP 4 6 rfl jX4 (by decide) (by decide) (q := (2, 2)) rfl (tg_at 142 (by decide +kernel) rfl) hka hv hdg kk
theorem gf_X4_22 (hC : Cx p s m args c cc RX4 D cy ad tb) (hP : va_P D vwCl (pW cy ad S) H) (hka : kd a = 4) {v : Value} (hv : Value.ref (ad (a + 3)) = v) (hdg : decode cc pc = .ok (.getfield 22, 3)) (kk : W p l e R s m args below meth c H locs cells slots Q (F0 m (pc + 3) ls (v :: rest))) : W p l e R s m args below meth c H locs cells slots Q (F0 m pc ls (.ref (ad a) :: rest)) := pg_get hC hP 4 7 rfl jX4 (by decide) (by decide) (q := (2, 3)) rfl (tg_at 145 (by decide +kernel) rfl) hka hv hdg kk
theorem gf_X4_25 (hC : Cx p s m args c cc RX4 D cy ad tb) (hP : va_P D vwCl (pW cy ad S) H) (hka : kd a = 4) {v : Value} (hv : Value.ref (ad (a + 4)) = v) (hdg : decode cc pc = .ok (.getfield 25, 3)) (kk : W p l e R s m args below meth c H locs cells slots Q (F0 m (pc + 3) ls (v :: rest))) : W p l e R s m args below meth c H locs cells slots Q (F0 m pc ls (.ref (ad a) :: rest)) := pg_get hC hP 4 8 rfl jX4 (by decide) (by decide) (q := (2, 4)) rfl (tg_at 148 (by decide +kernel) rfl) hka hv hdg kk
theorem gf_X4_28 (hC : Cx p s m args c cc RX4 D cy ad tb) (hP : va_P D vwCl (pW cy ad S) H) (hka : kd a = 4) {v : Value} (hv : Value.ref (ad (a + 5)) = v) (hdg : decode cc pc = .ok (.getfield 28, 3)) (kk : W p l e R s m args below meth c H locs cells slots Q (F0 m (pc + 3) ls (v :: rest))) : W p l e R s m args below meth c H locs cells slots Q (F0 m pc ls (.ref (ad a) :: rest)) := pg_get hC hP 4 9 rfl jX4 (by decide) (by decide) (q := (2, 5)) rfl (tg_at 150 (by decide +kernel) rfl) hka hv hdg kk
theorem gf_X4_31 (hC : Cx p s m args c cc RX4 D cy ad tb) (hP : va_P D vwCl (pW cy ad S) H) (hka : kd a = 4) {v : Value} (hv : Value.ref (ad (a + 6)) = v) (hdg : decode cc pc = .ok (.getfield 31, 3)) (kk : W p l e R s m args below meth c H locs cells slots Q (F0 m (pc + 3) ls (v :: rest))) : W p l e R s m args below meth c H locs cells slots Q (F0 m pc ls (.ref (ad a) :: rest)) := pg_get hC hP 4 10 rfl jX4 (by decide) (by decide) (q := (2, 6)) rfl (tg_at 152 (by decide +kernel) rfl) hka hv hdg kk
theorem gf_X4_34 (hC : Cx p s m args c cc RX4 D cy ad tb) (hP : va_P D vwCl (pW cy ad S) H) (hka : kd a = 4) {v : Value} (hv : Value.ref (ad (a + 7)) = v) (hdg : decode cc pc = .ok (.getfield 34, 3)) (kk : W p l e R s m args below meth c H locs cells slots Q (F0 m (pc + 3) ls (v :: rest))) : W p l e R s m args below meth c H locs cells slots Q (F0 m pc ls (.ref (ad a) :: rest)) := pg_get hC hP 4 11 rfl jX4 (by decide) (by decide) (q := (2, 7)) rfl (tg_at 154 (by decide +kernel) rfl) hka hv hdg kk
theorem gf_X4_37 (hC : Cx p s m args c cc RX4 D cy ad tb) (hP : va_P D vwCl (pW cy ad S) H) (hka : kd a = 4) {v : Value} (hv : Value.ref (ad (a + 8)) = v) (hdg : decode cc pc = .ok (.getfield 37, 3)) (kk : W p l e R s m args below meth c H locs cells slots Q (F0 m (pc + 3) ls (v :: rest))) : W p l e R s m args below meth c H locs cells slots Q (F0 m pc ls (.ref (ad a) :: rest)) := pg_get hC hP 4 12 rfl jX4 (by decide) (by decide) (q := (2, 8)) rfl (tg_at 157 (by decide +kernel) rfl) hka hv hdg kk
theorem gf_X4_40 (hC : Cx p s m args c cc RX4 D cy ad tb) (hP : va_P D vwCl (pW cy ad S) H) (hka : kd a = 4) {v : Value} (hv : Value.ref (ad (a + 9)) = v) (hdg : decode cc pc = .ok (.getfield 40, 3)) (kk : W p l e R s m args below meth c H locs cells slots Q (F0 m (pc + 3) ls (v :: rest))) : W p l e R s m args below meth c H locs cells slots Q (F0 m pc ls (.ref (ad a) :: rest)) := pg_get hC hP 4 13 rfl jX4 (by decide) (by decide) (q := (2, 9)) rfl (tg_at 160 (by decide +kernel) rfl) hka hv hdg kk
theorem gf_X4_43 (hC : Cx p s m args c cc RX4 D cy ad tb) (hP : va_P D vwCl (pW cy ad S) H) (hka : kd a = 4) {v : Value} (hv : Value.int (gI S 400 a) = v) (hdg : decode cc pc = .ok (.getfield 43, 3)) (kk : W p l e R s m args below meth c H locs cells slots Q (F0 m (pc + 3) ls (v :: rest))) : W p l e R s m args below meth c H locs cells slots Q (F0 m pc ls (.ref (ad a) :: rest)) := pg_get hC hP 4 0 rfl jX4 (by decide) (by decide) (q := (0, 400)) rfl (tg_at 120 (by decide +kernel) rfl) hka hv hdg kk
theorem gf_X4_46 (hC : Cx p s m args c cc RX4 D cy ad tb) (hP : va_P D vwCl (pW cy ad S) H) (hka : kd a = 4) {v : Value} (hv : Value.int (gI S 401 a) = v) (hdg : decode cc pc = .ok (.getfield 46, 3)) (kk : W p l e R s m args below meth c H locs cells slots Q (F0 m (pc + 3) ls (v :: rest))) : W p l e R s m args below meth c H locs cells slots Q (F0 m pc ls (.ref (ad a) :: rest)) := pg_get hC hP 4 1 rfl jX4 (by decide) (by decide) (q := (0, 401)) rfl (tg_at 124 (by decide +kernel) rfl) hka hv hdg kk
theorem gf_X4_49 (hC : Cx p s m args c cc RX4 D cy ad tb) (hP : va_P D vwCl (pW cy ad S) H) (hka : kd a = 4) {v : Value} (hv : Value.int (gI S 403 a) = v) (hdg : decode cc pc = .ok (.getfield 49, 3)) (kk : W p l e R s m args below meth c H locs cells slots Q (F0 m (pc + 3) ls (v :: rest))) : W p l e R s m args below meth c H locs cells slots Q (F0 m pc ls (.ref (ad a) :: rest)) := pg_get hC hP 4 3 rfl jX4 (by decide) (by decide) (q := (0, 403)) rfl (tg_at 134 (by decide +kernel) rfl) hka hv hdg kk
theorem gf_X4_52 (hC : Cx p s m args c cc RX4 D cy ad tb) (hP : va_P D vwCl (pW cy ad S) H) (hka : kd a = 4) {v : Value} (hv : Value.int (gI S 404 a) = v) (hdg : decode cc pc = .ok (.getfield 52, 3)) (kk : W p l e R s m args below meth c H locs cells slots Q (F0 m (pc + 3) ls (v :: rest))) : W p l e R s m args below meth c H locs cells slots Q (F0 m pc ls (.ref (ad a) :: rest)) := pg_get hC hP 4 4 rfl jX4 (by decide) (by decide) (q := (0, 404)) rfl (tg_at 137 (by decide +kernel) rfl) hka hv hdg kk
theorem gf_X5_12 (hC : Cx p s m args c cc RX5 D cy ad tb) (hP : va_P D vwCl (pW cy ad S) H) (hka : kd a = 5) {v : Value} (hv : Value.ref (ad (a + 1)) = v) (hdg : decode cc pc = .ok (.getfield 12, 3)) (kk : W p l e R s m args below meth c H locs cells slots Q (F0 m (pc + 3) ls (v :: rest))) : W p l e R s m args below meth c H locs cells slots Q (F0 m pc ls (.ref (ad a) :: rest)) := pg_get hC hP 5 0 rfl jX5 (by decide) (by decide) (q := (2, 1)) rfl (tg_at 224 (by decide +kernel) rfl) hka hv hdg kk
theorem gf_X5_18 (hC : Cx p s m args c cc RX5 D cy ad tb) (hP : va_P D vwCl (pW cy ad S) H) (hka : kd a = 5) {v : Value} (hv : Value.ref (ad (a + 3)) = v) (hdg : decode cc pc = .ok (.getfield 18, 3)) (kk : W p l e R s m args below meth c H locs cells slots Q (F0 m (pc + 3) ls (v :: rest))) : W p l e R s m args below meth c H locs cells slots Q (F0 m pc ls (.ref (ad a) :: rest)) := pg_get hC hP 5 2 rfl jX5 (by decide) (by decide) (q := (2, 3)) rfl (tg_at 228 (by decide +kernel) rfl) hka hv hdg kk
theorem gf_X5_25 (hC : Cx p s m args c cc RX5 D cy ad tb) (hP : va_P D vwCl (pW cy ad S) H) (hka : kd a = 5) {v : Value} (hv : Value.int (gI S 501 a) = v) (hdg : decode cc pc = .ok (.getfield 25, 3)) (kk : W p l e R s m args below meth c H locs cells slots Q (F0 m (pc + 3) ls (v :: rest))) : W p l e R s m args below meth c H locs cells slots Q (F0 m pc ls (.ref (ad a) :: rest)) := pg_get hC hP 5 1 rfl jX5 (by decide) (by decide) (q := (0, 501)) rfl (tg_at 226 (by decide +kernel) rfl) hka hv hdg kk
theorem gf_X6_10 (hC : Cx p s m args c cc RX6 D cy ad tb) (hP : va_P D vwCl (pW cy ad S) H) (hka : kd a = 6) {v : Value} (hv : Value.ref (ad (a + 1)) = v) (hdg : decode cc pc = .ok (.getfield 10, 3)) (kk : W p l e R s m args below meth c H locs cells slots Q (F0 m (pc + 3) ls (v :: rest))) : W p l e R s m args below meth c H locs cells slots Q (F0 m pc ls (.ref (ad a) :: rest)) := pg_get hC hP 6 0 rfl jX6 (by decide) (by decide) (q := (2, 1)) rfl (tg_at 317 (by decide +kernel) rfl) hka hv hdg kk
theorem gf_X6_19 (hC : Cx p s m args c cc RX6 D cy ad tb) (hP : va_P D vwCl (pW cy ad S) H) (hka : kd a = 6) {v : Value} (hv : Value.ref (ad (gR S 601 a)) = v) (hdg : decode cc pc = .ok (.getfield 19, 3)) (kk : W p l e R s m args below meth c H locs cells slots Q (F0 m (pc + 3) ls (v :: rest))) : W p l e R s m args below meth c H locs cells slots Q (F0 m pc ls (.ref (ad a) :: rest)) := pg_get hC hP 6 1 rfl jX6 (by decide) (by decide) (q := (3, 601)) rfl (tg_at 318 (by decide +kernel) rfl) hka hv hdg kk
theorem gf_X6_23 (hC : Cx p s m args c cc RX6 D cy ad tb) (hP : va_P D vwCl (pW cy ad S) H) (hka : kd a = 6) {v : Value} (hv : Value.ref (ad (gR S 602 a)) = v) (hdg : decode cc pc = .ok (.getfield 23, 3)) (kk : W p l e R s m args below meth c H locs cells slots Q (F0 m (pc + 3) ls (v :: rest))) : W p l e R s m args below meth c H locs cells slots Q (F0 m pc ls (.ref (ad a) :: rest)) := pg_get hC hP 6 2 rfl jX6 (by decide) (by decide) (q := (3, 602)) rfl (tg_at 319 (by decide +kernel) rfl) hka hv hdg kk
theorem gf_X6_29 (hC : Cx p s m args c cc RX6 D cy ad tb) (hP : va_P D vwCl (pW cy ad S) H) (hka : kd a = 6) {v : Value} (hv : Value.ref (ad (a + 24)) = v) (hdg : decode cc pc = .ok (.getfield 29, 3)) (kk : W p l e R s m args below meth c H locs cells slots Q (F0 m (pc + 3) ls (v :: rest))) : W p l e R s m args below meth c H locs cells slots Q (F0 m pc ls (.ref (ad a) :: rest)) := pg_get hC hP 6 3 rfl jX6 (by decide) (by decide) (q := (2, 24)) rfl (tg_at 320 (by decide +kernel) rfl) hka hv hdg kk
theorem gf_X6_33 (hC : Cx p s m args c cc RX6 D cy ad tb) (hP : va_P D vwCl (pW cy ad S) H) (hka : kd a = 6) {v : Value} (hv : Value.ref (ad (a + 48)) = v) (hdg : decode cc pc = .ok (.getfield 33, 3)) (kk : W p l e R s m args below meth c H locs cells slots Q (F0 m (pc + 3) ls (v :: rest))) : W p l e R s m args below meth c H locs cells slots Q (F0 m pc ls (.ref (ad a) :: rest)) := pg_get hC hP 6 4 rfl jX6 (by decide) (by decide) (q := (2, 48)) rfl (tg_at 321 (by decide +kernel) rfl) hka hv hdg kk
theorem gf_X6_37 (hC : Cx p s m args c cc RX6 D cy ad tb) (hP : va_P D vwCl (pW cy ad S) H) (hka : kd a = 6) {v : Value} (hv : Value.ref (ad (a + 97)) = v) (hdg : decode cc pc = .ok (.getfield 37, 3)) (kk : W p l e R s m args below meth c H locs cells slots Q (F0 m (pc + 3) ls (v :: rest))) : W p l e R s m args below meth c H locs cells slots Q (F0 m pc ls (.ref (ad a) :: rest)) := pg_get hC hP 6 5 rfl jX6 (by decide) (by decide) (q := (2, 97)) rfl (tg_at 322 (by decide +kernel) rfl) hka hv hdg kk
theorem gf_X6_44 (hC : Cx p s m args c cc RX6 D cy ad tb) (hP : va_P D vwCl (pW cy ad S) H) (hka : kd a = 6) {v : Value} (hv : Value.ref (ad (a + 98)) = v) (hdg : decode cc pc = .ok (.getfield 44, 3)) (kk : W p l e R s m args below meth c H locs cells slots Q (F0 m (pc + 3) ls (v :: rest))) : W p l e R s m args below meth c H locs cells slots Q (F0 m pc ls (.ref (ad a) :: rest)) := pg_get hC hP 6 6 rfl jX6 (by decide) (by decide) (q := (2, 98)) rfl (tg_at 323 (by decide +kernel) rfl) hka hv hdg kk
theorem gf_X6_53 (hC : Cx p s m args c cc RX6 D cy ad tb) (hP : va_P D vwCl (pW cy ad S) H) (hka : kd a = 6) {v : Value} (hv : Value.ref (ad (a + 120)) = v) (hdg : decode cc pc = .ok (.getfield 53, 3)) (kk : W p l e R s m args below meth c H locs cells slots Q (F0 m (pc + 3) ls (v :: rest))) : W p l e R s m args below meth c H locs cells slots Q (F0 m pc ls (.ref (ad a) :: rest)) := pg_get hC hP 6 7 rfl jX6 (by decide) (by decide) (q := (2, 120)) rfl (tg_at 324 (by decide +kernel) rfl) hka hv hdg kk
theorem gf_X6_57 (hC : Cx p s m args c cc RX6 D cy ad tb) (hP : va_P D vwCl (pW cy ad S) H) (hka : kd a = 6) {v : Value} (hv : Value.ref (ad (a + 138)) = v) (hdg : decode cc pc = .ok (.getfield 57, 3)) (kk : W p l e R s m args below meth c H locs cells slots Q (F0 m (pc + 3) ls (v :: rest))) : W p l e R s m args below meth c H locs cells slots Q (F0 m pc ls (.ref (ad a) :: rest)) := pg_get hC hP 6 8 rfl jX6 (by decide) (by decide) (q := (2, 138)) rfl (tg_at 325 (by decide +kernel) rfl) hka hv hdg kk
theorem gf_X6_63 (hC : Cx p s m args c cc RX6 D cy ad tb) (hP : va_P D vwCl (pW cy ad S) H) (hka : kd a = 6) {v : Value} (hv : Value.ref (ad (a + 156)) = v) (hdg : decode cc pc = .ok (.getfield 63, 3)) (kk : W p l e R s m args below meth c H locs cells slots Q (F0 m (pc + 3) ls (v :: rest))) : W p l e R s m args below meth c H locs cells slots Q (F0 m pc ls (.ref (ad a) :: rest)) := pg_get hC hP 6 9 rfl jX6 (by decide) (by decide) (q := (2, 156)) rfl (tg_at 326 (by decide +kernel) rfl) hka hv hdg kk
theorem gf_X6_67 (hC : Cx p s m args c cc RX6 D cy ad tb) (hP : va_P D vwCl (pW cy ad S) H) (hka : kd a = 2) {v : Value} (hv : Value.int (gI S 200 a) = v) (hdg : decode cc pc = .ok (.getfield 67, 3)) (kk : W p l e R s m args below meth c H locs cells slots Q (F0 m (pc + 3) ls (v :: rest))) : W p l e R s m args below meth c H locs cells slots Q (F0 m pc ls (.ref (ad a) :: rest)) := pg_get hC hP 2 0 rfl jX2 (by decide) (by decide) (q := (0, 200)) rfl (tg_at 83 (by decide +kernel) rfl) hka hv hdg kk
theorem gf_X6_71 (hC : Cx p s m args c cc RX6 D cy ad tb) (hP : va_P D vwCl (pW cy ad S) H) (hka : kd a = 2) {v : Value} (hv : Value.ref (ad (a + 1)) = v) (hdg : decode cc pc = .ok (.getfield 71, 3)) (kk : W p l e R s m args below meth c H locs cells slots Q (F0 m (pc + 3) ls (v :: rest))) : W p l e R s m args below meth c H locs cells slots Q (F0 m pc ls (.ref (ad a) :: rest)) := pg_get hC hP 2 1 rfl jX2 (by decide) (by decide) (q := (2, 1)) rfl (tg_at 86 (by decide +kernel) rfl) hka hv hdg kk
theorem gf_X6_82 (hC : Cx p s m args c cc RX6 D cy ad tb) (hP : va_P D vwCl (pW cy ad S) H) (hka : kd a = 3) {v : Value} (hv : Value.int (gI S 300 a) = v) (hdg : decode cc pc = .ok (.getfield 82, 3)) (kk : W p l e R s m args below meth c H locs cells slots Q (F0 m (pc + 3) ls (v :: rest))) : W p l e R s m args below meth c H locs cells slots Q (F0 m pc ls (.ref (ad a) :: rest)) := pg_get hC hP 3 0 rfl jX3 (by decide) (by decide) (q := (0, 300)) rfl (tg_at 246 (by decide +kernel) rfl) hka hv hdg kk
theorem gf_X6_90 (hC : Cx p s m args c cc RX6 D cy ad tb) (hP : va_P D vwCl (pW cy ad S) H) (hka : kd a = 4) {v : Value} (hv : Value.int (gI S 400 a) = v) (hdg : decode cc pc = .ok (.getfield 90, 3)) (kk : W p l e R s m args below meth c H locs cells slots Q (F0 m (pc + 3) ls (v :: rest))) : W p l e R s m args below meth c H locs cells slots Q (F0 m pc ls (.ref (ad a) :: rest)) := pg_get hC hP 4 0 rfl jX4 (by decide) (by decide) (q := (0, 400)) rfl (tg_at 123 (by decide +kernel) rfl) hka hv hdg kk
theorem gf_X6_93 (hC : Cx p s m args c cc RX6 D cy ad tb) (hP : va_P D vwCl (pW cy ad S) H) (hka : kd a = 4) {v : Value} (hv : Value.ref (ad (a + 1)) = v) (hdg : decode cc pc = .ok (.getfield 93, 3)) (kk : W p l e R s m args below meth c H locs cells slots Q (F0 m (pc + 3) ls (v :: rest))) : W p l e R s m args below meth c H locs cells slots Q (F0 m pc ls (.ref (ad a) :: rest)) := pg_get hC hP 4 5 rfl jX4 (by decide) (by decide) (q := (2, 1)) rfl (tg_at 141 (by decide +kernel) rfl) hka hv hdg kk
theorem gf_X6_96 (hC : Cx p s m args c cc RX6 D cy ad tb) (hP : va_P D vwCl (pW cy ad S) H) (hka : kd a = 4) {v : Value} (hv : Value.ref (ad (a + 2)) = v) (hdg : decode cc pc = .ok (.getfield 96, 3)) (kk : W p l e R s m args below meth c H locs cells slots Q (F0 m (pc + 3) ls (v :: rest))) : W p l e R s m args below meth c H locs cells slots Q (F0 m pc ls (.ref (ad a) :: rest)) := pg_get hC hP 4 6 rfl jX4 (by decide) (by decide) (q := (2, 2)) rfl (tg_at 144 (by decide +kernel) rfl) hka hv hdg kk
theorem gf_X6_99 (hC : Cx p s m args c cc RX6 D cy ad tb) (hP : va_P D vwCl (pW cy ad S) H) (hka : kd a = 5) {v : Value} (hv : Value.ref (ad (a + 1)) = v) (hdg : decode cc pc = .ok (.getfield 99, 3)) (kk : W p l e R s m args below meth c H locs cells slots Q (F0 m (pc + 3) ls (v :: rest))) : W p l e R s m args below meth c H locs cells slots Q (F0 m pc ls (.ref (ad a) :: rest)) := pg_get hC hP 5 0 rfl jX5 (by decide) (by decide) (q := (2, 1)) rfl (tg_at 225 (by decide +kernel) rfl) hka hv hdg kk
theorem gf_X6_102 (hC : Cx p s m args c cc RX6 D cy ad tb) (hP : va_P D vwCl (pW cy ad S) H) (hka : kd a = 0) {v : Value} (hv : Value.ref (ad (a + 1)) = v) (hdg : decode cc pc = .ok (.getfield 102, 3)) (kk : W p l e R s m args below meth c H locs cells slots Q (F0 m (pc + 3) ls (v :: rest))) : W p l e R s m args below meth c H locs cells slots Q (F0 m pc ls (.ref (ad a) :: rest)) := pg_get hC hP 0 3 rfl jX0 (by decide) (by decide) (q := (2, 1)) rfl (tg_at 213 (by decide +kernel) rfl) hka hv hdg kk
theorem gf_X6_113 (hC : Cx p s m args c cc RX6 D cy ad tb) (hP : va_P D vwCl (pW cy ad S) H) (hka : kd a = 4) {v : Value} (hv : Value.ref (ad (a + 3)) = v) (hdg : decode cc pc = .ok (.getfield 113, 3)) (kk : W p l e R s m args below meth c H locs cells slots Q (F0 m (pc + 3) ls (v :: rest))) : W p l e R s m args below meth c H locs cells slots Q (F0 m pc ls (.ref (ad a) :: rest)) := pg_get hC hP 4 7 rfl jX4 (by decide) (by decide) (q := (2, 3)) rfl (tg_at 146 (by decide +kernel) rfl) hka hv hdg kk
theorem gf_X6_116 (hC : Cx p s m args c cc RX6 D cy ad tb) (hP : va_P D vwCl (pW cy ad S) H) (hka : kd a = 4) {v : Value} (hv : Value.ref (ad (a + 4)) = v) (hdg : decode cc pc = .ok (.getfield 116, 3)) (kk : W p l e R s m args below meth c H locs cells slots Q (F0 m (pc + 3) ls (v :: rest))) : W p l e R s m args below meth c H locs cells slots Q (F0 m pc ls (.ref (ad a) :: rest)) := pg_get hC hP 4 8 rfl jX4 (by decide) (by decide) (q := (2, 4)) rfl (tg_at 149 (by decide +kernel) rfl) hka hv hdg kk
theorem gf_X6_119 (hC : Cx p s m args c cc RX6 D cy ad tb) (hP : va_P D vwCl (pW cy ad S) H) (hka : kd a = 4) {v : Value} (hv : Value.ref (ad (a + 5)) = v) (hdg : decode cc pc = .ok (.getfield 119, 3)) (kk : W p l e R s m args below meth c H locs cells slots Q (F0 m (pc + 3) ls (v :: rest))) : W p l e R s m args below meth c H locs cells slots Q (F0 m pc ls (.ref (ad a) :: rest)) := pg_get hC hP 4 9 rfl jX4 (by decide) (by decide) (q := (2, 5)) rfl (tg_at 151 (by decide +kernel) rfl) hka hv hdg kk
theorem gf_X6_122 (hC : Cx p s m args c cc RX6 D cy ad tb) (hP : va_P D vwCl (pW cy ad S) H) (hka : kd a = 4) {v : Value} (hv : Value.ref (ad (a + 6)) = v) (hdg : decode cc pc = .ok (.getfield 122, 3)) (kk : W p l e R s m args below meth c H locs cells slots Q (F0 m (pc + 3) ls (v :: rest))) : W p l e R s m args below meth c H locs cells slots Q (F0 m pc ls (.ref (ad a) :: rest)) := pg_get hC hP 4 10 rfl jX4 (by decide) (by decide) (q := (2, 6)) rfl (tg_at 153 (by decide +kernel) rfl) hka hv hdg kk
theorem gf_X6_132 (hC : Cx p s m args c cc RX6 D cy ad tb) (hP : va_P D vwCl (pW cy ad S) H) (hka : kd a = 0) {v : Value} (hv : Value.int (gI S 0 a) = v) (hdg : decode cc pc = .ok (.getfield 132, 3)) (kk : W p l e R s m args below meth c H locs cells slots Q (F0 m (pc + 3) ls (v :: rest))) : W p l e R s m args below meth c H locs cells slots Q (F0 m pc ls (.ref (ad a) :: rest)) := pg_get hC hP 0 0 rfl jX0 (by decide) (by decide) (q := (0, 0)) rfl (tg_at 205 (by decide +kernel) rfl) hka hv hdg kk
theorem gf_X6_135 (hC : Cx p s m args c cc RX6 D cy ad tb) (hP : va_P D vwCl (pW cy ad S) H) (hka : kd a = 4) {v : Value} (hv : Value.int (gI S 401 a) = v) (hdg : decode cc pc = .ok (.getfield 135, 3)) (kk : W p l e R s m args below meth c H locs cells slots Q (F0 m (pc + 3) ls (v :: rest))) : W p l e R s m args below meth c H locs cells slots Q (F0 m pc ls (.ref (ad a) :: rest)) := pg_get hC hP 4 1 rfl jX4 (by decide) (by decide) (q := (0, 401)) rfl (tg_at 128 (by decide +kernel) rfl) hka hv hdg kk
theorem gf_X6_142 (hC : Cx p s m args c cc RX6 D cy ad tb) (hP : va_P D vwCl (pW cy ad S) H) (hka : kd a = 0) {v : Value} (hv : Value.int (gI S 1 a) = v) (hdg : decode cc pc = .ok (.getfield 142, 3)) (kk : W p l e R s m args below meth c H locs cells slots Q (F0 m (pc + 3) ls (v :: rest))) : W p l e R s m args below meth c H locs cells slots Q (F0 m pc ls (.ref (ad a) :: rest)) := pg_get hC hP 0 1 rfl jX0 (by decide) (by decide) (q := (0, 1)) rfl (tg_at 209 (by decide +kernel) rfl) hka hv hdg kk
theorem gf_X6_152 (hC : Cx p s m args c cc RX6 D cy ad tb) (hP : va_P D vwCl (pW cy ad S) H) (hka : kd a = 0) {v : Value} (hv : Value.int (gI S 2 a) = v) (hdg : decode cc pc = .ok (.getfield 152, 3)) (kk : W p l e R s m args below meth c H locs cells slots Q (F0 m (pc + 3) ls (v :: rest))) : W p l e R s m args below meth c H locs cells slots Q (F0 m pc ls (.ref (ad a) :: rest)) := pg_get hC hP 0 2 rfl jX0 (by decide) (by decide) (q := (0, 2)) rfl (tg_at 211 (by decide +kernel) rfl) hka hv hdg kk
theorem gf_X6_163 (hC : Cx p s m args c cc RX6 D cy ad tb) (hP : va_P D vwCl (pW cy ad S) H) (hka : kd a = 5) {v : Value} (hv : Value.int (gI S 501 a) = v) (hdg : decode cc pc = .ok (.getfield 163, 3)) (kk : W p l e R s m args below meth c H locs cells slots Q (F0 m (pc + 3) ls (v :: rest))) : W p l e R s m args below meth c H locs cells slots Q (F0 m pc ls (.ref (ad a) :: rest)) := pg_get hC hP 5 1 rfl jX5 (by decide) (by decide) (q := (0, 501)) rfl (tg_at 227 (by decide +kernel) rfl) hka hv hdg kk
theorem gf_X6_179 (hC : Cx p s m args c cc RX6 D cy ad tb) (hP : va_P D vwCl (pW cy ad S) H) (hka : kd a = 1) {v : Value} (hv : Value.int (gI S 100 a) = v) (hdg : decode cc pc = .ok (.getfield 179, 3)) (kk : W p l e R s m args below meth c H locs cells slots Q (F0 m (pc + 3) ls (v :: rest))) : W p l e R s m args below meth c H locs cells slots Q (F0 m pc ls (.ref (ad a) :: rest)) := pg_get hC hP 1 0 rfl jX1 (by decide) (by decide) (q := (0, 100)) rfl (tg_at 294 (by decide +kernel) rfl) hka hv hdg kk
theorem gf_X6_189 (hC : Cx p s m args c cc RX6 D cy ad tb) (hP : va_P D vwCl (pW cy ad S) H) (hka : kd a = 1) {v : Value} (hv : Value.int (gI S 101 a) = v) (hdg : decode cc pc = .ok (.getfield 189, 3)) (kk : W p l e R s m args below meth c H locs cells slots Q (F0 m (pc + 3) ls (v :: rest))) : W p l e R s m args below meth c H locs cells slots Q (F0 m pc ls (.ref (ad a) :: rest)) := pg_get hC hP 1 1 rfl jX1 (by decide) (by decide) (q := (0, 101)) rfl (tg_at 296 (by decide +kernel) rfl) hka hv hdg kk
theorem gf_X6_192 (hC : Cx p s m args c cc RX6 D cy ad tb) (hP : va_P D vwCl (pW cy ad S) H) (hka : kd a = 1) {v : Value} (hv : Value.ref (ad (a + 1)) = v) (hdg : decode cc pc = .ok (.getfield 192, 3)) (kk : W p l e R s m args below meth c H locs cells slots Q (F0 m (pc + 3) ls (v :: rest))) : W p l e R s m args below meth c H locs cells slots Q (F0 m pc ls (.ref (ad a) :: rest)) := pg_get hC hP 1 2 rfl jX1 (by decide) (by decide) (q := (2, 1)) rfl (tg_at 298 (by decide +kernel) rfl) hka hv hdg kk
theorem gf_X6_206 (hC : Cx p s m args c cc RX6 D cy ad tb) (hP : va_P D vwCl (pW cy ad S) H) (hka : kd a = 4) {v : Value} (hv : Value.int (gI S 403 a) = v) (hdg : decode cc pc = .ok (.getfield 206, 3)) (kk : W p l e R s m args below meth c H locs cells slots Q (F0 m (pc + 3) ls (v :: rest))) : W p l e R s m args below meth c H locs cells slots Q (F0 m pc ls (.ref (ad a) :: rest)) := pg_get hC hP 4 3 rfl jX4 (by decide) (by decide) (q := (0, 403)) rfl (tg_at 136 (by decide +kernel) rfl) hka hv hdg kk
theorem gf_X6_240 (hC : Cx p s m args c cc RX6 D cy ad tb) (hP : va_P D vwCl (pW cy ad S) H) (hka : kd a = 3) {v : Value} (hv : Value.int (gI S 302 a) = v) (hdg : decode cc pc = .ok (.getfield 240, 3)) (kk : W p l e R s m args below meth c H locs cells slots Q (F0 m (pc + 3) ls (v :: rest))) : W p l e R s m args below meth c H locs cells slots Q (F0 m pc ls (.ref (ad a) :: rest)) := pg_get hC hP 3 2 rfl jX3 (by decide) (by decide) (q := (0, 302)) rfl (tg_at 250 (by decide +kernel) rfl) hka hv hdg kk
theorem gf_X6_243 (hC : Cx p s m args c cc RX6 D cy ad tb) (hP : va_P D vwCl (pW cy ad S) H) (hka : kd a = 3) {v : Value} (hv : Value.ref (ad (a + 1)) = v) (hdg : decode cc pc = .ok (.getfield 243, 3)) (kk : W p l e R s m args below meth c H locs cells slots Q (F0 m (pc + 3) ls (v :: rest))) : W p l e R s m args below meth c H locs cells slots Q (F0 m pc ls (.ref (ad a) :: rest)) := pg_get hC hP 3 3 rfl jX3 (by decide) (by decide) (q := (2, 1)) rfl (tg_at 252 (by decide +kernel) rfl) hka hv hdg kk
theorem gf_X6_246 (hC : Cx p s m args c cc RX6 D cy ad tb) (hP : va_P D vwCl (pW cy ad S) H) (hka : kd a = 3) {v : Value} (hv : Value.ref (ad (a + 2)) = v) (hdg : decode cc pc = .ok (.getfield 246, 3)) (kk : W p l e R s m args below meth c H locs cells slots Q (F0 m (pc + 3) ls (v :: rest))) : W p l e R s m args below meth c H locs cells slots Q (F0 m pc ls (.ref (ad a) :: rest)) := pg_get hC hP 3 4 rfl jX3 (by decide) (by decide) (q := (2, 2)) rfl (tg_at 254 (by decide +kernel) rfl) hka hv hdg kk
theorem gf_X6_268 (hC : Cx p s m args c cc RX6 D cy ad tb) (hP : va_P D vwCl (pW cy ad S) H) (hka : kd a = 6) {v : Value} (hv : Value.long (gJ S 610 a) = v) (hdg : decode cc pc = .ok (.getfield 268, 3)) (kk : W p l e R s m args below meth c H locs cells slots Q (F0 m (pc + 3) ls (v :: rest))) : W p l e R s m args below meth c H locs cells slots Q (F0 m pc ls (.ref (ad a) :: rest)) := pg_get hC hP 6 10 rfl jX6 (by decide) (by decide) (q := (1, 610)) rfl (tg_at 327 (by decide +kernel) rfl) hka hv hdg kk
theorem gf_X6_292 (hC : Cx p s m args c cc RX6 D cy ad tb) (hP : va_P D vwCl (pW cy ad S) H) (hka : kd a = 4) {v : Value} (hv : Value.int (gI S 402 a) = v) (hdg : decode cc pc = .ok (.getfield 292, 3)) (kk : W p l e R s m args below meth c H locs cells slots Q (F0 m (pc + 3) ls (v :: rest))) : W p l e R s m args below meth c H locs cells slots Q (F0 m pc ls (.ref (ad a) :: rest)) := pg_get hC hP 4 2 rfl jX4 (by decide) (by decide) (q := (0, 402)) rfl (tg_at 133 (by decide +kernel) rfl) hka hv hdg kk
theorem gf_X7_7 (hC : Cx p s m args c cc RX7 D cy ad tb) (hP : va_P D vwCl (pW cy ad S) H) (hka : kd a = 7) {v : Value} (hv : Value.ref (ad (a + 1)) = v) (hdg : decode cc pc = .ok (.getfield 7, 3)) (kk : W p l e R s m args below meth c H locs cells slots Q (F0 m (pc + 3) ls (v :: rest))) : W p l e R s m args below meth c H locs cells slots Q (F0 m pc ls (.ref (ad a) :: rest)) := pg_get hC hP 7 1 rfl jX7 (by decide) (by decide) (q := (2, 1)) rfl (tg_at 759 (by decide +kernel) rfl) hka hv hdg kk
theorem gf_X7_13 (hC : Cx p s m args c cc RX7 D cy ad tb) (hP : va_P D vwCl (pW cy ad S) H) (hka : kd a = 7) {v : Value} (hv : Value.ref (ad (a + 2)) = v) (hdg : decode cc pc = .ok (.getfield 13, 3)) (kk : W p l e R s m args below meth c H locs cells slots Q (F0 m (pc + 3) ls (v :: rest))) : W p l e R s m args below meth c H locs cells slots Q (F0 m pc ls (.ref (ad a) :: rest)) := pg_get hC hP 7 3 rfl jX7 (by decide) (by decide) (q := (2, 2)) rfl (tg_at 761 (by decide +kernel) rfl) hka hv hdg kk
theorem gf_X7_16 (hC : Cx p s m args c cc RX7 D cy ad tb) (hP : va_P D vwCl (pW cy ad S) H) (hka : kd a = 7) {v : Value} (hv : Value.int (gI S 704 a) = v) (hdg : decode cc pc = .ok (.getfield 16, 3)) (kk : W p l e R s m args below meth c H locs cells slots Q (F0 m (pc + 3) ls (v :: rest))) : W p l e R s m args below meth c H locs cells slots Q (F0 m pc ls (.ref (ad a) :: rest)) := pg_get hC hP 7 4 rfl jX7 (by decide) (by decide) (q := (0, 704)) rfl (tg_at 762 (by decide +kernel) rfl) hka hv hdg kk
theorem gf_X7_20 (hC : Cx p s m args c cc RX7 D cy ad tb) (hP : va_P D vwCl (pW cy ad S) H) (hka : kd a = 7) {v : Value} (hv : Value.ref (ad (a + 3)) = v) (hdg : decode cc pc = .ok (.getfield 20, 3)) (kk : W p l e R s m args below meth c H locs cells slots Q (F0 m (pc + 3) ls (v :: rest))) : W p l e R s m args below meth c H locs cells slots Q (F0 m pc ls (.ref (ad a) :: rest)) := pg_get hC hP 7 6 rfl jX7 (by decide) (by decide) (q := (2, 3)) rfl (tg_at 764 (by decide +kernel) rfl) hka hv hdg kk
theorem gf_X7_23 (hC : Cx p s m args c cc RX7 D cy ad tb) (hP : va_P D vwCl (pW cy ad S) H) (hka : kd a = 7) {v : Value} (hv : Value.ref (ad (a + 4)) = v) (hdg : decode cc pc = .ok (.getfield 23, 3)) (kk : W p l e R s m args below meth c H locs cells slots Q (F0 m (pc + 3) ls (v :: rest))) : W p l e R s m args below meth c H locs cells slots Q (F0 m pc ls (.ref (ad a) :: rest)) := pg_get hC hP 7 7 rfl jX7 (by decide) (by decide) (q := (2, 4)) rfl (tg_at 765 (by decide +kernel) rfl) hka hv hdg kk
theorem gf_X7_26 (hC : Cx p s m args c cc RX7 D cy ad tb) (hP : va_P D vwCl (pW cy ad S) H) (hka : kd a = 7) {v : Value} (hv : Value.ref (ad (a + 5)) = v) (hdg : decode cc pc = .ok (.getfield 26, 3)) (kk : W p l e R s m args below meth c H locs cells slots Q (F0 m (pc + 3) ls (v :: rest))) : W p l e R s m args below meth c H locs cells slots Q (F0 m pc ls (.ref (ad a) :: rest)) := pg_get hC hP 7 9 rfl jX7 (by decide) (by decide) (q := (2, 5)) rfl (tg_at 767 (by decide +kernel) rfl) hka hv hdg kk
theorem gf_X7_29 (hC : Cx p s m args c cc RX7 D cy ad tb) (hP : va_P D vwCl (pW cy ad S) H) (hka : kd a = 7) {v : Value} (hv : Value.ref (ad (a + 6)) = v) (hdg : decode cc pc = .ok (.getfield 29, 3)) (kk : W p l e R s m args below meth c H locs cells slots Q (F0 m (pc + 3) ls (v :: rest))) : W p l e R s m args below meth c H locs cells slots Q (F0 m pc ls (.ref (ad a) :: rest)) := pg_get hC hP 7 10 rfl jX7 (by decide) (by decide) (q := (2, 6)) rfl (tg_at 768 (by decide +kernel) rfl) hka hv hdg kk
theorem gf_X7_33 (hC : Cx p s m args c cc RX7 D cy ad tb) (hP : va_P D vwCl (pW cy ad S) H) (hka : kd a = 7) {v : Value} (hv : Value.ref (ad (a + 7)) = v) (hdg : decode cc pc = .ok (.getfield 33, 3)) (kk : W p l e R s m args below meth c H locs cells slots Q (F0 m (pc + 3) ls (v :: rest))) : W p l e R s m args below meth c H locs cells slots Q (F0 m pc ls (.ref (ad a) :: rest)) := pg_get hC hP 7 12 rfl jX7 (by decide) (by decide) (q := (2, 7)) rfl (tg_at 770 (by decide +kernel) rfl) hka hv hdg kk
theorem gf_X7_36 (hC : Cx p s m args c cc RX7 D cy ad tb) (hP : va_P D vwCl (pW cy ad S) H) (hka : kd a = 7) {v : Value} (hv : Value.ref (ad (a + 8)) = v) (hdg : decode cc pc = .ok (.getfield 36, 3)) (kk : W p l e R s m args below meth c H locs cells slots Q (F0 m (pc + 3) ls (v :: rest))) : W p l e R s m args below meth c H locs cells slots Q (F0 m pc ls (.ref (ad a) :: rest)) := pg_get hC hP 7 14 rfl jX7 (by decide) (by decide) (q := (2, 8)) rfl (tg_at 772 (by decide +kernel) rfl) hka hv hdg kk
theorem gf_X7_39 (hC : Cx p s m args c cc RX7 D cy ad tb) (hP : va_P D vwCl (pW cy ad S) H) (hka : kd a = 7) {v : Value} (hv : Value.ref (ad (a + 9)) = v) (hdg : decode cc pc = .ok (.getfield 39, 3)) (kk : W p l e R s m args below meth c H locs cells slots Q (F0 m (pc + 3) ls (v :: rest))) : W p l e R s m args below meth c H locs cells slots Q (F0 m pc ls (.ref (ad a) :: rest)) := pg_get hC hP 7 22 rfl jX7 (by decide) (by decide) (q := (2, 9)) rfl (tg_at 780 (by decide +kernel) rfl) hka hv hdg kk
theorem gf_X7_42 (hC : Cx p s m args c cc RX7 D cy ad tb) (hP : va_P D vwCl (pW cy ad S) H) (hka : kd a = 7) {v : Value} (hv : Value.ref (ad (a + 10)) = v) (hdg : decode cc pc = .ok (.getfield 42, 3)) (kk : W p l e R s m args below meth c H locs cells slots Q (F0 m (pc + 3) ls (v :: rest))) : W p l e R s m args below meth c H locs cells slots Q (F0 m pc ls (.ref (ad a) :: rest)) := pg_get hC hP 7 24 rfl jX7 (by decide) (by decide) (q := (2, 10)) rfl (tg_at 782 (by decide +kernel) rfl) hka hv hdg kk
theorem gf_X7_45 (hC : Cx p s m args c cc RX7 D cy ad tb) (hP : va_P D vwCl (pW cy ad S) H) (hka : kd a = 7) {v : Value} (hv : Value.ref (ad (a + 11)) = v) (hdg : decode cc pc = .ok (.getfield 45, 3)) (kk : W p l e R s m args below meth c H locs cells slots Q (F0 m (pc + 3) ls (v :: rest))) : W p l e R s m args below meth c H locs cells slots Q (F0 m pc ls (.ref (ad a) :: rest)) := pg_get hC hP 7 25 rfl jX7 (by decide) (by decide) (q := (2, 11)) rfl (tg_at 783 (by decide +kernel) rfl) hka hv hdg kk
theorem gf_X7_48 (hC : Cx p s m args c cc RX7 D cy ad tb) (hP : va_P D vwCl (pW cy ad S) H) (hka : kd a = 7) {v : Value} (hv : Value.ref (ad (a + 12)) = v) (hdg : decode cc pc = .ok (.getfield 48, 3)) (kk : W p l e R s m args below meth c H locs cells slots Q (F0 m (pc + 3) ls (v :: rest))) : W p l e R s m args below meth c H locs cells slots Q (F0 m pc ls (.ref (ad a) :: rest)) := pg_get hC hP 7 26 rfl jX7 (by decide) (by decide) (q := (2, 12)) rfl (tg_at 784 (by decide +kernel) rfl) hka hv hdg kk
theorem gf_X7_51 (hC : Cx p s m args c cc RX7 D cy ad tb) (hP : va_P D vwCl (pW cy ad S) H) (hka : kd a = 7) {v : Value} (hv : Value.ref (ad (a + 13)) = v) (hdg : decode cc pc = .ok (.getfield 51, 3)) (kk : W p l e R s m args below meth c H locs cells slots Q (F0 m (pc + 3) ls (v :: rest))) : W p l e R s m args below meth c H locs cells slots Q (F0 m pc ls (.ref (ad a) :: rest)) := pg_get hC hP 7 27 rfl jX7 (by decide) (by decide) (q := (2, 13)) rfl (tg_at 785 (by decide +kernel) rfl) hka hv hdg kk
theorem gf_X7_54 (hC : Cx p s m args c cc RX7 D cy ad tb) (hP : va_P D vwCl (pW cy ad S) H) (hka : kd a = 7) {v : Value} (hv : Value.ref (ad (a + 14)) = v) (hdg : decode cc pc = .ok (.getfield 54, 3)) (kk : W p l e R s m args below meth c H locs cells slots Q (F0 m (pc + 3) ls (v :: rest))) : W p l e R s m args below meth c H locs cells slots Q (F0 m pc ls (.ref (ad a) :: rest)) := pg_get hC hP 7 28 rfl jX7 (by decide) (by decide) (q := (2, 14)) rfl (tg_at 786 (by decide +kernel) rfl) hka hv hdg kk
theorem gf_X7_57 (hC : Cx p s m args c cc RX7 D cy ad tb) (hP : va_P D vwCl (pW cy ad S) H) (hka : kd a = 7) {v : Value} (hv : Value.ref (ad (a + 15)) = v) (hdg : decode cc pc = .ok (.getfield 57, 3)) (kk : W p l e R s m args below meth c H locs cells slots Q (F0 m (pc + 3) ls (v :: rest))) : W p l e R s m args below meth c H locs cells slots Q (F0 m pc ls (.ref (ad a) :: rest)) := pg_get hC hP 7 29 rfl jX7 (by decide) (by decide) (q := (2, 15)) rfl (tg_at 787 (by decide +kernel) rfl) hka hv hdg kk
theorem gf_X7_60 (hC : Cx p s m args c cc RX7 D cy ad tb) (hP : va_P D vwCl (pW cy ad S) H) (hka : kd a = 7) {v : Value} (hv : Value.ref (ad (a + 16)) = v) (hdg : decode cc pc = .ok (.getfield 60, 3)) (kk : W p l e R s m args below meth c H locs cells slots Q (F0 m (pc + 3) ls (v :: rest))) : W p l e R s m args below meth c H locs cells slots Q (F0 m pc ls (.ref (ad a) :: rest)) := pg_get hC hP 7 30 rfl jX7 (by decide) (by decide) (q := (2, 16)) rfl (tg_at 788 (by decide +kernel) rfl) hka hv hdg kk
theorem gf_X7_63 (hC : Cx p s m args c cc RX7 D cy ad tb) (hP : va_P D vwCl (pW cy ad S) H) (hka : kd a = 7) {v : Value} (hv : Value.ref (ad (a + 17)) = v) (hdg : decode cc pc = .ok (.getfield 63, 3)) (kk : W p l e R s m args below meth c H locs cells slots Q (F0 m (pc + 3) ls (v :: rest))) : W p l e R s m args below meth c H locs cells slots Q (F0 m pc ls (.ref (ad a) :: rest)) := pg_get hC hP 7 31 rfl jX7 (by decide) (by decide) (q := (2, 17)) rfl (tg_at 789 (by decide +kernel) rfl) hka hv hdg kk
theorem gf_X7_69 (hC : Cx p s m args c cc RX7 D cy ad tb) (hP : va_P D vwCl (pW cy ad S) H) (hka : kd a = 7) {v : Value} (hv : Value.int (gI S 700 a) = v) (hdg : decode cc pc = .ok (.getfield 69, 3)) (kk : W p l e R s m args below meth c H locs cells slots Q (F0 m (pc + 3) ls (v :: rest))) : W p l e R s m args below meth c H locs cells slots Q (F0 m pc ls (.ref (ad a) :: rest)) := pg_get hC hP 7 0 rfl jX7 (by decide) (by decide) (q := (0, 700)) rfl (tg_at 758 (by decide +kernel) rfl) hka hv hdg kk
theorem gf_X7_76 (hC : Cx p s m args c cc RX7 D cy ad tb) (hP : va_P D vwCl (pW cy ad S) H) (hka : kd a = 7) {v : Value} (hv : Value.int (gI S 702 a) = v) (hdg : decode cc pc = .ok (.getfield 76, 3)) (kk : W p l e R s m args below meth c H locs cells slots Q (F0 m (pc + 3) ls (v :: rest))) : W p l e R s m args below meth c H locs cells slots Q (F0 m pc ls (.ref (ad a) :: rest)) := pg_get hC hP 7 2 rfl jX7 (by decide) (by decide) (q := (0, 702)) rfl (tg_at 760 (by decide +kernel) rfl) hka hv hdg kk
theorem gf_X7_83 (hC : Cx p s m args c cc RX7 D cy ad tb) (hP : va_P D vwCl (pW cy ad S) H) (hka : kd a = 7) {v : Value} (hv : Value.int (gI S 715 a) = v) (hdg : decode cc pc = .ok (.getfield 83, 3)) (kk : W p l e R s m args below meth c H locs cells slots Q (F0 m (pc + 3) ls (v :: rest))) : W p l e R s m args below meth c H locs cells slots Q (F0 m pc ls (.ref (ad a) :: rest)) := pg_get hC hP 7 15 rfl jX7 (by decide) (by decide) (q := (0, 715)) rfl (tg_at 773 (by decide +kernel) rfl) hka hv hdg kk
theorem gf_X7_86 (hC : Cx p s m args c cc RX7 D cy ad tb) (hP : va_P D vwCl (pW cy ad S) H) (hka : kd a = 7) {v : Value} (hv : Value.int (gI S 716 a) = v) (hdg : decode cc pc = .ok (.getfield 86, 3)) (kk : W p l e R s m args below meth c H locs cells slots Q (F0 m (pc + 3) ls (v :: rest))) : W p l e R s m args below meth c H locs cells slots Q (F0 m pc ls (.ref (ad a) :: rest)) := pg_get hC hP 7 16 rfl jX7 (by decide) (by decide) (q := (0, 716)) rfl (tg_at 774 (by decide +kernel) rfl) hka hv hdg kk
theorem gf_X7_93 (hC : Cx p s m args c cc RX7 D cy ad tb) (hP : va_P D vwCl (pW cy ad S) H) (hka : kd a = 7) {v : Value} (hv : Value.int (gI S 717 a) = v) (hdg : decode cc pc = .ok (.getfield 93, 3)) (kk : W p l e R s m args below meth c H locs cells slots Q (F0 m (pc + 3) ls (v :: rest))) : W p l e R s m args below meth c H locs cells slots Q (F0 m pc ls (.ref (ad a) :: rest)) := pg_get hC hP 7 17 rfl jX7 (by decide) (by decide) (q := (0, 717)) rfl (tg_at 775 (by decide +kernel) rfl) hka hv hdg kk
theorem gf_X7_96 (hC : Cx p s m args c cc RX7 D cy ad tb) (hP : va_P D vwCl (pW cy ad S) H) (hka : kd a = 7) {v : Value} (hv : Value.int (gI S 719 a) = v) (hdg : decode cc pc = .ok (.getfield 96, 3)) (kk : W p l e R s m args below meth c H locs cells slots Q (F0 m (pc + 3) ls (v :: rest))) : W p l e R s m args below meth c H locs cells slots Q (F0 m pc ls (.ref (ad a) :: rest)) := pg_get hC hP 7 19 rfl jX7 (by decide) (by decide) (q := (0, 719)) rfl (tg_at 777 (by decide +kernel) rfl) hka hv hdg kk
theorem gf_X7_99 (hC : Cx p s m args c cc RX7 D cy ad tb) (hP : va_P D vwCl (pW cy ad S) H) (hka : kd a = 7) {v : Value} (hv : Value.int (gI S 718 a) = v) (hdg : decode cc pc = .ok (.getfield 99, 3)) (kk : W p l e R s m args below meth c H locs cells slots Q (F0 m (pc + 3) ls (v :: rest))) : W p l e R s m args below meth c H locs cells slots Q (F0 m pc ls (.ref (ad a) :: rest)) := pg_get hC hP 7 18 rfl jX7 (by decide) (by decide) (q := (0, 718)) rfl (tg_at 776 (by decide +kernel) rfl) hka hv hdg kk
theorem gf_X7_108 (hC : Cx p s m args c cc RX7 D cy ad tb) (hP : va_P D vwCl (pW cy ad S) H) (hka : kd a = 7) {v : Value} (hv : Value.int (gI S 720 a) = v) (hdg : decode cc pc = .ok (.getfield 108, 3)) (kk : W p l e R s m args below meth c H locs cells slots Q (F0 m (pc + 3) ls (v :: rest))) : W p l e R s m args below meth c H locs cells slots Q (F0 m pc ls (.ref (ad a) :: rest)) := pg_get hC hP 7 20 rfl jX7 (by decide) (by decide) (q := (0, 720)) rfl (tg_at 778 (by decide +kernel) rfl) hka hv hdg kk
theorem gf_X7_115 (hC : Cx p s m args c cc RX7 D cy ad tb) (hP : va_P D vwCl (pW cy ad S) H) (hka : kd a = 7) {v : Value} (hv : Value.int (gI S 721 a) = v) (hdg : decode cc pc = .ok (.getfield 115, 3)) (kk : W p l e R s m args below meth c H locs cells slots Q (F0 m (pc + 3) ls (v :: rest))) : W p l e R s m args below meth c H locs cells slots Q (F0 m pc ls (.ref (ad a) :: rest)) := pg_get hC hP 7 21 rfl jX7 (by decide) (by decide) (q := (0, 721)) rfl (tg_at 779 (by decide +kernel) rfl) hka hv hdg kk
theorem gf_X7_122 (hC : Cx p s m args c cc RX7 D cy ad tb) (hP : va_P D vwCl (pW cy ad S) H) (hka : kd a = 7) {v : Value} (hv : Value.int (gI S 723 a) = v) (hdg : decode cc pc = .ok (.getfield 122, 3)) (kk : W p l e R s m args below meth c H locs cells slots Q (F0 m (pc + 3) ls (v :: rest))) : W p l e R s m args below meth c H locs cells slots Q (F0 m pc ls (.ref (ad a) :: rest)) := pg_get hC hP 7 23 rfl jX7 (by decide) (by decide) (q := (0, 723)) rfl (tg_at 781 (by decide +kernel) rfl) hka hv hdg kk
theorem gf_X7_134 (hC : Cx p s m args c cc RX7 D cy ad tb) (hP : va_P D vwCl (pW cy ad S) H) (hka : kd a = 7) {v : Value} (hv : Value.int (gI S 705 a) = v) (hdg : decode cc pc = .ok (.getfield 134, 3)) (kk : W p l e R s m args below meth c H locs cells slots Q (F0 m (pc + 3) ls (v :: rest))) : W p l e R s m args below meth c H locs cells slots Q (F0 m pc ls (.ref (ad a) :: rest)) := pg_get hC hP 7 5 rfl jX7 (by decide) (by decide) (q := (0, 705)) rfl (tg_at 763 (by decide +kernel) rfl) hka hv hdg kk
theorem gf_X7_137 (hC : Cx p s m args c cc RX7 D cy ad tb) (hP : va_P D vwCl (pW cy ad S) H) (hka : kd a = 7) {v : Value} (hv : Value.int (gI S 708 a) = v) (hdg : decode cc pc = .ok (.getfield 137, 3)) (kk : W p l e R s m args below meth c H locs cells slots Q (F0 m (pc + 3) ls (v :: rest))) : W p l e R s m args below meth c H locs cells slots Q (F0 m pc ls (.ref (ad a) :: rest)) := pg_get hC hP 7 8 rfl jX7 (by decide) (by decide) (q := (0, 708)) rfl (tg_at 766 (by decide +kernel) rfl) hka hv hdg kk
theorem gf_X7_140 (hC : Cx p s m args c cc RX7 D cy ad tb) (hP : va_P D vwCl (pW cy ad S) H) (hka : kd a = 7) {v : Value} (hv : Value.int (gI S 711 a) = v) (hdg : decode cc pc = .ok (.getfield 140, 3)) (kk : W p l e R s m args below meth c H locs cells slots Q (F0 m (pc + 3) ls (v :: rest))) : W p l e R s m args below meth c H locs cells slots Q (F0 m pc ls (.ref (ad a) :: rest)) := pg_get hC hP 7 11 rfl jX7 (by decide) (by decide) (q := (0, 711)) rfl (tg_at 769 (by decide +kernel) rfl) hka hv hdg kk
theorem gf_X7_179 (hC : Cx p s m args c cc RX7 D cy ad tb) (hP : va_P D vwCl (pW cy ad S) H) (hka : kd a = 7) {v : Value} (hv : Value.int (gI S 732 a) = v) (hdg : decode cc pc = .ok (.getfield 179, 3)) (kk : W p l e R s m args below meth c H locs cells slots Q (F0 m (pc + 3) ls (v :: rest))) : W p l e R s m args below meth c H locs cells slots Q (F0 m pc ls (.ref (ad a) :: rest)) := pg_get hC hP 7 32 rfl jX7 (by decide) (by decide) (q := (0, 732)) rfl (tg_at 790 (by decide +kernel) rfl) hka hv hdg kk
theorem gf_X7_182 (hC : Cx p s m args c cc RX7 D cy ad tb) (hP : va_P D vwCl (pW cy ad S) H) (hka : kd a = 7) {v : Value} (hv : Value.int (gI S 733 a) = v) (hdg : decode cc pc = .ok (.getfield 182, 3)) (kk : W p l e R s m args below meth c H locs cells slots Q (F0 m (pc + 3) ls (v :: rest))) : W p l e R s m args below meth c H locs cells slots Q (F0 m pc ls (.ref (ad a) :: rest)) := pg_get hC hP 7 33 rfl jX7 (by decide) (by decide) (q := (0, 733)) rfl (tg_at 791 (by decide +kernel) rfl) hka hv hdg kk
theorem gf_X7_218 (hC : Cx p s m args c cc RX7 D cy ad tb) (hP : va_P D vwCl (pW cy ad S) H) (hka : kd a = 7) {v : Value} (hv : Value.long (gJ S 713 a) = v) (hdg : decode cc pc = .ok (.getfield 218, 3)) (kk : W p l e R s m args below meth c H locs cells slots Q (F0 m (pc + 3) ls (v :: rest))) : W p l e R s m args below meth c H locs cells slots Q (F0 m pc ls (.ref (ad a) :: rest)) := pg_get hC hP 7 13 rfl jX7 (by decide) (by decide) (q := (1, 713)) rfl (tg_at 771 (by decide +kernel) rfl) hka hv hdg kk
theorem pf_X0_9 (hC : Cx p s m args c cc RX0 D cy ad tb) (hP : va_P D vwCl (pW cy ad S) H) (hS : va_S (pA ad s.heap.size) s.heap H locs) (hka : kd a = 0) {v : Int32} (eS : S1 = sI S 2 a v) (hdg : decode cc pc = .ok (.putfield 9, 3)) (kk : ∀ (H1 : Heap) (locs1 : List Loc), va_P D vwCl (pW cy ad S1) H1 → va_S (pA ad s.heap.size) s.heap H1 locs1 → W p l e R s m args below meth c H1 locs1 cells slots Q (F0 m (pc + 3) ls rest)) : W p l e R s m args below meth c H locs cells slots Q (F0 m pc ls (.int v :: .ref (ad a) :: rest)) := by
  subst eS
  exact pg_put hC hP hS 0 2 rfl jX0 tyX0 tyX0_ok nmX0 (by decide) (by decide) (q := (0, 2)) rfl (by decide +kernel) (tg_at 210 (by decide +kernel) rfl) rfl hka (sI_at) (fun r hr _ => sI_off hr) (fun b hb => pF_sI_ne hb) rfl rfl hdg kk
theorem pf_X0_19 (hC : Cx p s m args c cc RX0 D cy ad tb) (hP : va_P D vwCl (pW cy ad S) H) (hS : va_S (pA ad s.heap.size) s.heap H locs) (hka : kd a = 0) {v : Int32} (eS : S1 = sI S 0 a v) (hdg : decode cc pc = .ok (.putfield 19, 3)) (kk : ∀ (H1 : Heap) (locs1 : List Loc), va_P D vwCl (pW cy ad S1) H1 → va_S (pA ad s.heap.size) s.heap H1 locs1 → W p l e R s m args below meth c H1 locs1 cells slots Q (F0 m (pc + 3) ls rest)) : W p l e R s m args below meth c H locs cells slots Q (F0 m pc ls (.int v :: .ref (ad a) :: rest)) := by
  subst eS
  exact pg_put hC hP hS 0 0 rfl jX0 tyX0 tyX0_ok nmX0 (by decide) (by decide) (q := (0, 0)) rfl (by decide +kernel) (tg_at 203 (by decide +kernel) rfl) rfl hka (sI_at) (fun r hr _ => sI_off hr) (fun b hb => pF_sI_ne hb) rfl rfl hdg kk
theorem pf_X0_22 (hC : Cx p s m args c cc RX0 D cy ad tb) (hP : va_P D vwCl (pW cy ad S) H) (hS : va_S (pA ad s.heap.size) s.heap H locs) (hka : kd a = 0) {v : Int32} (eS : S1 = sI S 1 a v) (hdg : decode cc pc = .ok (.putfield 22, 3)) (kk : ∀ (H1 : Heap) (locs1 : List Loc), va_P D vwCl (pW cy ad S1) H1 → va_S (pA ad s.heap.size) s.heap H1 locs1 → W p l e R s m args below meth c H1 locs1 cells slots Q (F0 m (pc + 3) ls rest)) : W p l e R s m args below meth c H locs cells slots Q (F0 m pc ls (.int v :: .ref (ad a) :: rest)) := by
  subst eS
  exact pg_put hC hP hS 0 1 rfl jX0 tyX0 tyX0_ok nmX0 (by decide) (by decide) (q := (0, 1)) rfl (by decide +kernel) (tg_at 206 (by decide +kernel) rfl) rfl hka (sI_at) (fun r hr _ => sI_off hr) (fun b hb => pF_sI_ne hb) rfl rfl hdg kk
theorem pf_X1_9 (hC : Cx p s m args c cc RX1 D cy ad tb) (hP : va_P D vwCl (pW cy ad S) H) (hS : va_S (pA ad s.heap.size) s.heap H locs) (hka : kd a = 1) {v : Int32} (eS : S1 = sI S 101 a v) (hdg : decode cc pc = .ok (.putfield 9, 3)) (kk : ∀ (H1 : Heap) (locs1 : List Loc), va_P D vwCl (pW cy ad S1) H1 → va_S (pA ad s.heap.size) s.heap H1 locs1 → W p l e R s m args below meth c H1 locs1 cells slots Q (F0 m (pc + 3) ls rest)) : W p l e R s m args below meth c H locs cells slots Q (F0 m pc ls (.int v :: .ref (ad a) :: rest)) := by
  subst eS
  exact pg_put hC hP hS 1 1 rfl jX1 tyX1 tyX1_ok nmX1 (by decide) (by decide) (q := (0, 101)) rfl (by decide +kernel) (tg_at 295 (by decide +kernel) rfl) rfl hka (sI_at) (fun r hr _ => sI_off hr) (fun b hb => pF_sI_ne hb) rfl rfl hdg kk
theorem pf_X1_33 (hC : Cx p s m args c cc RX1 D cy ad tb) (hP : va_P D vwCl (pW cy ad S) H) (hS : va_S (pA ad s.heap.size) s.heap H locs) (hka : kd a = 1) {v : Int32} (hz : v = 0 ∨ v = 1) (eS : S1 = sI S 100 a v) (hdg : decode cc pc = .ok (.putfield 33, 3)) (kk : ∀ (H1 : Heap) (locs1 : List Loc), va_P D vwCl (pW cy ad S1) H1 → va_S (pA ad s.heap.size) s.heap H1 locs1 → W p l e R s m args below meth c H1 locs1 cells slots Q (F0 m (pc + 3) ls rest)) : W p l e R s m args below meth c H locs cells slots Q (F0 m pc ls (.int v :: .ref (ad a) :: rest)) := by
  subst eS
  exact pg_put hC hP hS 1 0 rfl jX1 tyX1 tyX1_ok nmX1 (by decide) (by decide) (q := (0, 100)) rfl (by decide +kernel) (tg_at 293 (by decide +kernel) rfl) rfl hka (sI_at) (fun r hr _ => sI_off hr) (fun b hb => pF_sI_ne hb) (by rcases hz with h | h <;> subst h <;> decide) (by rcases hz with h | h <;> subst h <;> decide) hdg kk
theorem pf_X1_51 (hC : Cx p s m args c cc RX1 D cy ad tb) (hP : va_P D vwCl (pW cy ad S) H) (hS : va_S (pA ad s.heap.size) s.heap H locs) (hka : kd a = 0) {v : Int32} (eS : S1 = sI S 1 a v) (hdg : decode cc pc = .ok (.putfield 51, 3)) (kk : ∀ (H1 : Heap) (locs1 : List Loc), va_P D vwCl (pW cy ad S1) H1 → va_S (pA ad s.heap.size) s.heap H1 locs1 → W p l e R s m args below meth c H1 locs1 cells slots Q (F0 m (pc + 3) ls rest)) : W p l e R s m args below meth c H locs cells slots Q (F0 m pc ls (.int v :: .ref (ad a) :: rest)) := by
  subst eS
  exact pg_put hC hP hS 0 1 rfl jX0 tyX0 tyX0_ok nmX0 (by decide) (by decide) (q := (0, 1)) rfl (by decide +kernel) (tg_at 207 (by decide +kernel) rfl) rfl hka (sI_at) (fun r hr _ => sI_off hr) (fun b hb => pF_sI_ne hb) rfl rfl hdg kk
theorem pf_X2_23 (hC : Cx p s m args c cc RX2 D cy ad tb) (hP : va_P D vwCl (pW cy ad S) H) (hS : va_S (pA ad s.heap.size) s.heap H locs) (hka : kd a = 2) {v : Int32} (eS : S1 = sI S 205 a v) (hdg : decode cc pc = .ok (.putfield 23, 3)) (kk : ∀ (H1 : Heap) (locs1 : List Loc), va_P D vwCl (pW cy ad S1) H1 → va_S (pA ad s.heap.size) s.heap H1 locs1 → W p l e R s m args below meth c H1 locs1 cells slots Q (F0 m (pc + 3) ls rest)) : W p l e R s m args below meth c H locs cells slots Q (F0 m pc ls (.int v :: .ref (ad a) :: rest)) := by
  subst eS
  exact pg_put hC hP hS 2 5 rfl jX2 tyX2 tyX2_ok nmX2 (by decide) (by decide) (q := (0, 205)) rfl (by decide +kernel) (tg_at 90 (by decide +kernel) rfl) rfl hka (sI_at) (fun r hr _ => sI_off hr) (fun b hb => pF_sI_ne hb) rfl rfl hdg kk
theorem pf_X2_27 (hC : Cx p s m args c cc RX2 D cy ad tb) (hP : va_P D vwCl (pW cy ad S) H) (hS : va_S (pA ad s.heap.size) s.heap H locs) (hka : kd a = 2) {v : Int32} (hz : v = 0 ∨ v = 1) (eS : S1 = sI S 206 a v) (hdg : decode cc pc = .ok (.putfield 27, 3)) (kk : ∀ (H1 : Heap) (locs1 : List Loc), va_P D vwCl (pW cy ad S1) H1 → va_S (pA ad s.heap.size) s.heap H1 locs1 → W p l e R s m args below meth c H1 locs1 cells slots Q (F0 m (pc + 3) ls rest)) : W p l e R s m args below meth c H locs cells slots Q (F0 m pc ls (.int v :: .ref (ad a) :: rest)) := by
  subst eS
  exact pg_put hC hP hS 2 6 rfl jX2 tyX2 tyX2_ok nmX2 (by decide) (by decide) (q := (0, 206)) rfl (by decide +kernel) (tg_at 91 (by decide +kernel) rfl) rfl hka (sI_at) (fun r hr _ => sI_off hr) (fun b hb => pF_sI_ne hb) (by rcases hz with h | h <;> subst h <;> decide) (by rcases hz with h | h <;> subst h <;> decide) hdg kk
theorem pf_X2_31 (hC : Cx p s m args c cc RX2 D cy ad tb) (hP : va_P D vwCl (pW cy ad S) H) (hS : va_S (pA ad s.heap.size) s.heap H locs) (hka : kd a = 2) {v : Int32} (hz : v = 0 ∨ v = 1) (eS : S1 = sI S 207 a v) (hdg : decode cc pc = .ok (.putfield 31, 3)) (kk : ∀ (H1 : Heap) (locs1 : List Loc), va_P D vwCl (pW cy ad S1) H1 → va_S (pA ad s.heap.size) s.heap H1 locs1 → W p l e R s m args below meth c H1 locs1 cells slots Q (F0 m (pc + 3) ls rest)) : W p l e R s m args below meth c H locs cells slots Q (F0 m pc ls (.int v :: .ref (ad a) :: rest)) := by
  subst eS
  exact pg_put hC hP hS 2 7 rfl jX2 tyX2 tyX2_ok nmX2 (by decide) (by decide) (q := (0, 207)) rfl (by decide +kernel) (tg_at 92 (by decide +kernel) rfl) rfl hka (sI_at) (fun r hr _ => sI_off hr) (fun b hb => pF_sI_ne hb) (by rcases hz with h | h <;> subst h <;> decide) (by rcases hz with h | h <;> subst h <;> decide) hdg kk
theorem pf_X2_37 (hC : Cx p s m args c cc RX2 D cy ad tb) (hP : va_P D vwCl (pW cy ad S) H) (hS : va_S (pA ad s.heap.size) s.heap H locs) (hka : kd a = 2) {v : Int32} (eS : S1 = sI S 202 a v) (hdg : decode cc pc = .ok (.putfield 37, 3)) (kk : ∀ (H1 : Heap) (locs1 : List Loc), va_P D vwCl (pW cy ad S1) H1 → va_S (pA ad s.heap.size) s.heap H1 locs1 → W p l e R s m args below meth c H1 locs1 cells slots Q (F0 m (pc + 3) ls rest)) : W p l e R s m args below meth c H locs cells slots Q (F0 m pc ls (.int v :: .ref (ad a) :: rest)) := by
  subst eS
  exact pg_put hC hP hS 2 2 rfl jX2 tyX2 tyX2_ok nmX2 (by decide) (by decide) (q := (0, 202)) rfl (by decide +kernel) (tg_at 87 (by decide +kernel) rfl) rfl hka (sI_at) (fun r hr _ => sI_off hr) (fun b hb => pF_sI_ne hb) rfl rfl hdg kk
theorem pf_X2_44 (hC : Cx p s m args c cc RX2 D cy ad tb) (hP : va_P D vwCl (pW cy ad S) H) (hS : va_S (pA ad s.heap.size) s.heap H locs) (hka : kd a = 2) {v : Int32} (eS : S1 = sI S 203 a v) (hdg : decode cc pc = .ok (.putfield 44, 3)) (kk : ∀ (H1 : Heap) (locs1 : List Loc), va_P D vwCl (pW cy ad S1) H1 → va_S (pA ad s.heap.size) s.heap H1 locs1 → W p l e R s m args below meth c H1 locs1 cells slots Q (F0 m (pc + 3) ls rest)) : W p l e R s m args below meth c H locs cells slots Q (F0 m pc ls (.int v :: .ref (ad a) :: rest)) := by
  subst eS
  exact pg_put hC hP hS 2 3 rfl jX2 tyX2 tyX2_ok nmX2 (by decide) (by decide) (q := (0, 203)) rfl (by decide +kernel) (tg_at 88 (by decide +kernel) rfl) rfl hka (sI_at) (fun r hr _ => sI_off hr) (fun b hb => pF_sI_ne hb) rfl rfl hdg kk
theorem pf_X2_50 (hC : Cx p s m args c cc RX2 D cy ad tb) (hP : va_P D vwCl (pW cy ad S) H) (hS : va_S (pA ad s.heap.size) s.heap H locs) (hka : kd a = 2) {v : Int32} (eS : S1 = sI S 204 a v) (hdg : decode cc pc = .ok (.putfield 50, 3)) (kk : ∀ (H1 : Heap) (locs1 : List Loc), va_P D vwCl (pW cy ad S1) H1 → va_S (pA ad s.heap.size) s.heap H1 locs1 → W p l e R s m args below meth c H1 locs1 cells slots Q (F0 m (pc + 3) ls rest)) : W p l e R s m args below meth c H locs cells slots Q (F0 m pc ls (.int v :: .ref (ad a) :: rest)) := by
  subst eS
  exact pg_put hC hP hS 2 4 rfl jX2 tyX2 tyX2_ok nmX2 (by decide) (by decide) (q := (0, 204)) rfl (by decide +kernel) (tg_at 89 (by decide +kernel) rfl) rfl hka (sI_at) (fun r hr _ => sI_off hr) (fun b hb => pF_sI_ne hb) rfl rfl hdg kk
theorem pf_X2_95 (hC : Cx p s m args c cc RX2 D cy ad tb) (hP : va_P D vwCl (pW cy ad S) H) (hS : va_S (pA ad s.heap.size) s.heap H locs) (hka : kd a = 4) {v : Int32} (eS : S1 = sI S 402 a v) (hdg : decode cc pc = .ok (.putfield 95, 3)) (kk : ∀ (H1 : Heap) (locs1 : List Loc), va_P D vwCl (pW cy ad S1) H1 → va_S (pA ad s.heap.size) s.heap H1 locs1 → W p l e R s m args below meth c H1 locs1 cells slots Q (F0 m (pc + 3) ls rest)) : W p l e R s m args below meth c H locs cells slots Q (F0 m pc ls (.int v :: .ref (ad a) :: rest)) := by
  subst eS
  exact pg_put hC hP hS 4 2 rfl jX4 tyX4 tyX4_ok nmX4 (by decide) (by decide) (q := (0, 402)) rfl (by decide +kernel) (tg_at 131 (by decide +kernel) rfl) rfl hka (sI_at) (fun r hr _ => sI_off hr) (fun b hb => pF_sI_ne hb) rfl rfl hdg kk
theorem pf_X2_98 (hC : Cx p s m args c cc RX2 D cy ad tb) (hP : va_P D vwCl (pW cy ad S) H) (hS : va_S (pA ad s.heap.size) s.heap H locs) (hka : kd a = 4) {v : Int32} (eS : S1 = sI S 403 a v) (hdg : decode cc pc = .ok (.putfield 98, 3)) (kk : ∀ (H1 : Heap) (locs1 : List Loc), va_P D vwCl (pW cy ad S1) H1 → va_S (pA ad s.heap.size) s.heap H1 locs1 → W p l e R s m args below meth c H1 locs1 cells slots Q (F0 m (pc + 3) ls rest)) : W p l e R s m args below meth c H locs cells slots Q (F0 m pc ls (.int v :: .ref (ad a) :: rest)) := by
  subst eS
  exact pg_put hC hP hS 4 3 rfl jX4 tyX4 tyX4_ok nmX4 (by decide) (by decide) (q := (0, 403)) rfl (by decide +kernel) (tg_at 135 (by decide +kernel) rfl) rfl hka (sI_at) (fun r hr _ => sI_off hr) (fun b hb => pF_sI_ne hb) rfl rfl hdg kk
theorem pf_X3_37 (hC : Cx p s m args c cc RX3 D cy ad tb) (hP : va_P D vwCl (pW cy ad S) H) (hS : va_S (pA ad s.heap.size) s.heap H locs) (hka : kd a = 3) {v : Int32} (eS : S1 = sI S 300 a v) (hdg : decode cc pc = .ok (.putfield 37, 3)) (kk : ∀ (H1 : Heap) (locs1 : List Loc), va_P D vwCl (pW cy ad S1) H1 → va_S (pA ad s.heap.size) s.heap H1 locs1 → W p l e R s m args below meth c H1 locs1 cells slots Q (F0 m (pc + 3) ls rest)) : W p l e R s m args below meth c H locs cells slots Q (F0 m pc ls (.int v :: .ref (ad a) :: rest)) := by
  subst eS
  exact pg_put hC hP hS 3 0 rfl jX3 tyX3 tyX3_ok nmX3 (by decide) (by decide) (q := (0, 300)) rfl (by decide +kernel) (tg_at 245 (by decide +kernel) rfl) rfl hka (sI_at) (fun r hr _ => sI_off hr) (fun b hb => pF_sI_ne hb) rfl rfl hdg kk
theorem pf_X3_41 (hC : Cx p s m args c cc RX3 D cy ad tb) (hP : va_P D vwCl (pW cy ad S) H) (hS : va_S (pA ad s.heap.size) s.heap H locs) (hka : kd a = 3) {v : Int32} (hz : v = 0 ∨ v = 1) (eS : S1 = sI S 301 a v) (hdg : decode cc pc = .ok (.putfield 41, 3)) (kk : ∀ (H1 : Heap) (locs1 : List Loc), va_P D vwCl (pW cy ad S1) H1 → va_S (pA ad s.heap.size) s.heap H1 locs1 → W p l e R s m args below meth c H1 locs1 cells slots Q (F0 m (pc + 3) ls rest)) : W p l e R s m args below meth c H locs cells slots Q (F0 m pc ls (.int v :: .ref (ad a) :: rest)) := by
  subst eS
  exact pg_put hC hP hS 3 1 rfl jX3 tyX3 tyX3_ok nmX3 (by decide) (by decide) (q := (0, 301)) rfl (by decide +kernel) (tg_at 247 (by decide +kernel) rfl) rfl hka (sI_at) (fun r hr _ => sI_off hr) (fun b hb => pF_sI_ne hb) (by rcases hz with h | h <;> subst h <;> decide) (by rcases hz with h | h <;> subst h <;> decide) hdg kk
theorem pf_X3_45 (hC : Cx p s m args c cc RX3 D cy ad tb) (hP : va_P D vwCl (pW cy ad S) H) (hS : va_S (pA ad s.heap.size) s.heap H locs) (hka : kd a = 3) {v : Int32} (eS : S1 = sI S 302 a v) (hdg : decode cc pc = .ok (.putfield 45, 3)) (kk : ∀ (H1 : Heap) (locs1 : List Loc), va_P D vwCl (pW cy ad S1) H1 → va_S (pA ad s.heap.size) s.heap H1 locs1 → W p l e R s m args below meth c H1 locs1 cells slots Q (F0 m (pc + 3) ls rest)) : W p l e R s m args below meth c H locs cells slots Q (F0 m pc ls (.int v :: .ref (ad a) :: rest)) := by
  subst eS
  exact pg_put hC hP hS 3 2 rfl jX3 tyX3 tyX3_ok nmX3 (by decide) (by decide) (q := (0, 302)) rfl (by decide +kernel) (tg_at 249 (by decide +kernel) rfl) rfl hka (sI_at) (fun r hr _ => sI_off hr) (fun b hb => pF_sI_ne hb) rfl rfl hdg kk
theorem pf_X3_59 (hC : Cx p s m args c cc RX3 D cy ad tb) (hP : va_P D vwCl (pW cy ad S) H) (hS : va_S (pA ad s.heap.size) s.heap H locs) (hka : kd a = 3) {v : Int32} (eS : S1 = sI S 308 a v) (hdg : decode cc pc = .ok (.putfield 59, 3)) (kk : ∀ (H1 : Heap) (locs1 : List Loc), va_P D vwCl (pW cy ad S1) H1 → va_S (pA ad s.heap.size) s.heap H1 locs1 → W p l e R s m args below meth c H1 locs1 cells slots Q (F0 m (pc + 3) ls rest)) : W p l e R s m args below meth c H locs cells slots Q (F0 m pc ls (.int v :: .ref (ad a) :: rest)) := by
  subst eS
  exact pg_put hC hP hS 3 8 rfl jX3 tyX3 tyX3_ok nmX3 (by decide) (by decide) (q := (0, 308)) rfl (by decide +kernel) (tg_at 258 (by decide +kernel) rfl) rfl hka (sI_at) (fun r hr _ => sI_off hr) (fun b hb => pF_sI_ne hb) rfl rfl hdg kk
theorem pf_X4_9 (hC : Cx p s m args c cc RX4 D cy ad tb) (hP : va_P D vwCl (pW cy ad S) H) (hS : va_S (pA ad s.heap.size) s.heap H locs) (hka : kd a = 4) {v : Int32} (eS : S1 = sI S 402 a v) (hdg : decode cc pc = .ok (.putfield 9, 3)) (kk : ∀ (H1 : Heap) (locs1 : List Loc), va_P D vwCl (pW cy ad S1) H1 → va_S (pA ad s.heap.size) s.heap H1 locs1 → W p l e R s m args below meth c H1 locs1 cells slots Q (F0 m (pc + 3) ls rest)) : W p l e R s m args below meth c H locs cells slots Q (F0 m pc ls (.int v :: .ref (ad a) :: rest)) := by
  subst eS
  exact pg_put hC hP hS 4 2 rfl jX4 tyX4 tyX4_ok nmX4 (by decide) (by decide) (q := (0, 402)) rfl (by decide +kernel) (tg_at 130 (by decide +kernel) rfl) rfl hka (sI_at) (fun r hr _ => sI_off hr) (fun b hb => pF_sI_ne hb) rfl rfl hdg kk
theorem pf_X4_43 (hC : Cx p s m args c cc RX4 D cy ad tb) (hP : va_P D vwCl (pW cy ad S) H) (hS : va_S (pA ad s.heap.size) s.heap H locs) (hka : kd a = 4) {v : Int32} (eS : S1 = sI S 400 a v) (hdg : decode cc pc = .ok (.putfield 43, 3)) (kk : ∀ (H1 : Heap) (locs1 : List Loc), va_P D vwCl (pW cy ad S1) H1 → va_S (pA ad s.heap.size) s.heap H1 locs1 → W p l e R s m args below meth c H1 locs1 cells slots Q (F0 m (pc + 3) ls rest)) : W p l e R s m args below meth c H locs cells slots Q (F0 m pc ls (.int v :: .ref (ad a) :: rest)) := by
  subst eS
  exact pg_put hC hP hS 4 0 rfl jX4 tyX4 tyX4_ok nmX4 (by decide) (by decide) (q := (0, 400)) rfl (by decide +kernel) (tg_at 120 (by decide +kernel) rfl) rfl hka (sI_at) (fun r hr _ => sI_off hr) (fun b hb => pF_sI_ne hb) rfl rfl hdg kk
theorem pf_X4_46 (hC : Cx p s m args c cc RX4 D cy ad tb) (hP : va_P D vwCl (pW cy ad S) H) (hS : va_S (pA ad s.heap.size) s.heap H locs) (hka : kd a = 4) {v : Int32} (eS : S1 = sI S 401 a v) (hdg : decode cc pc = .ok (.putfield 46, 3)) (kk : ∀ (H1 : Heap) (locs1 : List Loc), va_P D vwCl (pW cy ad S1) H1 → va_S (pA ad s.heap.size) s.heap H1 locs1 → W p l e R s m args below meth c H1 locs1 cells slots Q (F0 m (pc + 3) ls rest)) : W p l e R s m args below meth c H locs cells slots Q (F0 m pc ls (.int v :: .ref (ad a) :: rest)) := by
  subst eS
  exact pg_put hC hP hS 4 1 rfl jX4 tyX4 tyX4_ok nmX4 (by decide) (by decide) (q := (0, 401)) rfl (by decide +kernel) (tg_at 124 (by decide +kernel) rfl) rfl hka (sI_at) (fun r hr _ => sI_off hr) (fun b hb => pF_sI_ne hb) rfl rfl hdg kk
theorem pf_X4_49 (hC : Cx p s m args c cc RX4 D cy ad tb) (hP : va_P D vwCl (pW cy ad S) H) (hS : va_S (pA ad s.heap.size) s.heap H locs) (hka : kd a = 4) {v : Int32} (eS : S1 = sI S 403 a v) (hdg : decode cc pc = .ok (.putfield 49, 3)) (kk : ∀ (H1 : Heap) (locs1 : List Loc), va_P D vwCl (pW cy ad S1) H1 → va_S (pA ad s.heap.size) s.heap H1 locs1 → W p l e R s m args below meth c H1 locs1 cells slots Q (F0 m (pc + 3) ls rest)) : W p l e R s m args below meth c H locs cells slots Q (F0 m pc ls (.int v :: .ref (ad a) :: rest)) := by
  subst eS
  exact pg_put hC hP hS 4 3 rfl jX4 tyX4 tyX4_ok nmX4 (by decide) (by decide) (q := (0, 403)) rfl (by decide +kernel) (tg_at 134 (by decide +kernel) rfl) rfl hka (sI_at) (fun r hr _ => sI_off hr) (fun b hb => pF_sI_ne hb) rfl rfl hdg kk
theorem pf_X4_52 (hC : Cx p s m args c cc RX4 D cy ad tb) (hP : va_P D vwCl (pW cy ad S) H) (hS : va_S (pA ad s.heap.size) s.heap H locs) (hka : kd a = 4) {v : Int32} (eS : S1 = sI S 404 a v) (hdg : decode cc pc = .ok (.putfield 52, 3)) (kk : ∀ (H1 : Heap) (locs1 : List Loc), va_P D vwCl (pW cy ad S1) H1 → va_S (pA ad s.heap.size) s.heap H1 locs1 → W p l e R s m args below meth c H1 locs1 cells slots Q (F0 m (pc + 3) ls rest)) : W p l e R s m args below meth c H locs cells slots Q (F0 m pc ls (.int v :: .ref (ad a) :: rest)) := by
  subst eS
  exact pg_put hC hP hS 4 4 rfl jX4 tyX4 tyX4_ok nmX4 (by decide) (by decide) (q := (0, 404)) rfl (by decide +kernel) (tg_at 137 (by decide +kernel) rfl) rfl hka (sI_at) (fun r hr _ => sI_off hr) (fun b hb => pF_sI_ne hb) rfl rfl hdg kk
theorem pf_X5_25 (hC : Cx p s m args c cc RX5 D cy ad tb) (hP : va_P D vwCl (pW cy ad S) H) (hS : va_S (pA ad s.heap.size) s.heap H locs) (hka : kd a = 5) {v : Int32} (eS : S1 = sI S 501 a v) (hdg : decode cc pc = .ok (.putfield 25, 3)) (kk : ∀ (H1 : Heap) (locs1 : List Loc), va_P D vwCl (pW cy ad S1) H1 → va_S (pA ad s.heap.size) s.heap H1 locs1 → W p l e R s m args below meth c H1 locs1 cells slots Q (F0 m (pc + 3) ls rest)) : W p l e R s m args below meth c H locs cells slots Q (F0 m pc ls (.int v :: .ref (ad a) :: rest)) := by
  subst eS
  exact pg_put hC hP hS 5 1 rfl jX5 tyX5 tyX5_ok nmX5 (by decide) (by decide) (q := (0, 501)) rfl (by decide +kernel) (tg_at 226 (by decide +kernel) rfl) rfl hka (sI_at) (fun r hr _ => sI_off hr) (fun b hb => pF_sI_ne hb) rfl rfl hdg kk
theorem pf_X6_19 (hC : Cx p s m args c cc RX6 D cy ad tb) (hP : va_P D vwCl (pW cy ad S) H) (hS : va_S (pA ad s.heap.size) s.heap H locs) (hka : kd a = 6) {v : Nat} (eS : S1 = sR S 601 a v) (hdg : decode cc pc = .ok (.putfield 19, 3)) (kk : ∀ (H1 : Heap) (locs1 : List Loc), va_P D vwCl (pW cy ad S1) H1 → va_S (pA ad s.heap.size) s.heap H1 locs1 → W p l e R s m args below meth c H1 locs1 cells slots Q (F0 m (pc + 3) ls rest)) : W p l e R s m args below meth c H locs cells slots Q (F0 m pc ls (.ref (ad v) :: .ref (ad a) :: rest)) := by
  subst eS
  exact pg_put hC hP hS 6 1 rfl jX6 tyX6 tyX6_ok nmX6 (by decide) (by decide) (q := (3, 601)) rfl (by decide +kernel) (tg_at 318 (by decide +kernel) rfl) rfl hka (sR_at) (fun r hr hm => sR_off hr ((show ∀ r ∈ ft 6, r.1 ≤ 3 by decide) r hm)) (fun b hb => pF_sR_ne hb) rfl rfl hdg kk
theorem pf_X6_23 (hC : Cx p s m args c cc RX6 D cy ad tb) (hP : va_P D vwCl (pW cy ad S) H) (hS : va_S (pA ad s.heap.size) s.heap H locs) (hka : kd a = 6) {v : Nat} (eS : S1 = sR S 602 a v) (hdg : decode cc pc = .ok (.putfield 23, 3)) (kk : ∀ (H1 : Heap) (locs1 : List Loc), va_P D vwCl (pW cy ad S1) H1 → va_S (pA ad s.heap.size) s.heap H1 locs1 → W p l e R s m args below meth c H1 locs1 cells slots Q (F0 m (pc + 3) ls rest)) : W p l e R s m args below meth c H locs cells slots Q (F0 m pc ls (.ref (ad v) :: .ref (ad a) :: rest)) := by
  subst eS
  exact pg_put hC hP hS 6 2 rfl jX6 tyX6 tyX6_ok nmX6 (by decide) (by decide) (q := (3, 602)) rfl (by decide +kernel) (tg_at 319 (by decide +kernel) rfl) rfl hka (sR_at) (fun r hr hm => sR_off hr ((show ∀ r ∈ ft 6, r.1 ≤ 3 by decide) r hm)) (fun b hb => pF_sR_ne hb) rfl rfl hdg kk
theorem pf_X6_67 (hC : Cx p s m args c cc RX6 D cy ad tb) (hP : va_P D vwCl (pW cy ad S) H) (hS : va_S (pA ad s.heap.size) s.heap H locs) (hka : kd a = 2) {v : Int32} (eS : S1 = sI S 200 a v) (hdg : decode cc pc = .ok (.putfield 67, 3)) (kk : ∀ (H1 : Heap) (locs1 : List Loc), va_P D vwCl (pW cy ad S1) H1 → va_S (pA ad s.heap.size) s.heap H1 locs1 → W p l e R s m args below meth c H1 locs1 cells slots Q (F0 m (pc + 3) ls rest)) : W p l e R s m args below meth c H locs cells slots Q (F0 m pc ls (.int v :: .ref (ad a) :: rest)) := by
  subst eS
  exact pg_put hC hP hS 2 0 rfl jX2 tyX2 tyX2_ok nmX2 (by decide) (by decide) (q := (0, 200)) rfl (by decide +kernel) (tg_at 83 (by decide +kernel) rfl) rfl hka (sI_at) (fun r hr _ => sI_off hr) (fun b hb => pF_sI_ne hb) rfl rfl hdg kk
theorem pf_X6_82 (hC : Cx p s m args c cc RX6 D cy ad tb) (hP : va_P D vwCl (pW cy ad S) H) (hS : va_S (pA ad s.heap.size) s.heap H locs) (hka : kd a = 3) {v : Int32} (eS : S1 = sI S 300 a v) (hdg : decode cc pc = .ok (.putfield 82, 3)) (kk : ∀ (H1 : Heap) (locs1 : List Loc), va_P D vwCl (pW cy ad S1) H1 → va_S (pA ad s.heap.size) s.heap H1 locs1 → W p l e R s m args below meth c H1 locs1 cells slots Q (F0 m (pc + 3) ls rest)) : W p l e R s m args below meth c H locs cells slots Q (F0 m pc ls (.int v :: .ref (ad a) :: rest)) := by
  subst eS
  exact pg_put hC hP hS 3 0 rfl jX3 tyX3 tyX3_ok nmX3 (by decide) (by decide) (q := (0, 300)) rfl (by decide +kernel) (tg_at 246 (by decide +kernel) rfl) rfl hka (sI_at) (fun r hr _ => sI_off hr) (fun b hb => pF_sI_ne hb) rfl rfl hdg kk
theorem pf_X6_83 (hC : Cx p s m args c cc RX6 D cy ad tb) (hP : va_P D vwCl (pW cy ad S) H) (hS : va_S (pA ad s.heap.size) s.heap H locs) (hka : kd a = 3) {v : Int32} (hz : v = 0 ∨ v = 1) (eS : S1 = sI S 301 a v) (hdg : decode cc pc = .ok (.putfield 83, 3)) (kk : ∀ (H1 : Heap) (locs1 : List Loc), va_P D vwCl (pW cy ad S1) H1 → va_S (pA ad s.heap.size) s.heap H1 locs1 → W p l e R s m args below meth c H1 locs1 cells slots Q (F0 m (pc + 3) ls rest)) : W p l e R s m args below meth c H locs cells slots Q (F0 m pc ls (.int v :: .ref (ad a) :: rest)) := by
  subst eS
  exact pg_put hC hP hS 3 1 rfl jX3 tyX3 tyX3_ok nmX3 (by decide) (by decide) (q := (0, 301)) rfl (by decide +kernel) (tg_at 248 (by decide +kernel) rfl) rfl hka (sI_at) (fun r hr _ => sI_off hr) (fun b hb => pF_sI_ne hb) (by rcases hz with h | h <;> subst h <;> decide) (by rcases hz with h | h <;> subst h <;> decide) hdg kk
theorem pf_X6_132 (hC : Cx p s m args c cc RX6 D cy ad tb) (hP : va_P D vwCl (pW cy ad S) H) (hS : va_S (pA ad s.heap.size) s.heap H locs) (hka : kd a = 0) {v : Int32} (eS : S1 = sI S 0 a v) (hdg : decode cc pc = .ok (.putfield 132, 3)) (kk : ∀ (H1 : Heap) (locs1 : List Loc), va_P D vwCl (pW cy ad S1) H1 → va_S (pA ad s.heap.size) s.heap H1 locs1 → W p l e R s m args below meth c H1 locs1 cells slots Q (F0 m (pc + 3) ls rest)) : W p l e R s m args below meth c H locs cells slots Q (F0 m pc ls (.int v :: .ref (ad a) :: rest)) := by
  subst eS
  exact pg_put hC hP hS 0 0 rfl jX0 tyX0 tyX0_ok nmX0 (by decide) (by decide) (q := (0, 0)) rfl (by decide +kernel) (tg_at 205 (by decide +kernel) rfl) rfl hka (sI_at) (fun r hr _ => sI_off hr) (fun b hb => pF_sI_ne hb) rfl rfl hdg kk
theorem pf_X6_142 (hC : Cx p s m args c cc RX6 D cy ad tb) (hP : va_P D vwCl (pW cy ad S) H) (hS : va_S (pA ad s.heap.size) s.heap H locs) (hka : kd a = 0) {v : Int32} (eS : S1 = sI S 1 a v) (hdg : decode cc pc = .ok (.putfield 142, 3)) (kk : ∀ (H1 : Heap) (locs1 : List Loc), va_P D vwCl (pW cy ad S1) H1 → va_S (pA ad s.heap.size) s.heap H1 locs1 → W p l e R s m args below meth c H1 locs1 cells slots Q (F0 m (pc + 3) ls rest)) : W p l e R s m args below meth c H locs cells slots Q (F0 m pc ls (.int v :: .ref (ad a) :: rest)) := by
  subst eS
  exact pg_put hC hP hS 0 1 rfl jX0 tyX0 tyX0_ok nmX0 (by decide) (by decide) (q := (0, 1)) rfl (by decide +kernel) (tg_at 209 (by decide +kernel) rfl) rfl hka (sI_at) (fun r hr _ => sI_off hr) (fun b hb => pF_sI_ne hb) rfl rfl hdg kk
theorem pf_X6_179 (hC : Cx p s m args c cc RX6 D cy ad tb) (hP : va_P D vwCl (pW cy ad S) H) (hS : va_S (pA ad s.heap.size) s.heap H locs) (hka : kd a = 1) {v : Int32} (hz : v = 0 ∨ v = 1) (eS : S1 = sI S 100 a v) (hdg : decode cc pc = .ok (.putfield 179, 3)) (kk : ∀ (H1 : Heap) (locs1 : List Loc), va_P D vwCl (pW cy ad S1) H1 → va_S (pA ad s.heap.size) s.heap H1 locs1 → W p l e R s m args below meth c H1 locs1 cells slots Q (F0 m (pc + 3) ls rest)) : W p l e R s m args below meth c H locs cells slots Q (F0 m pc ls (.int v :: .ref (ad a) :: rest)) := by
  subst eS
  exact pg_put hC hP hS 1 0 rfl jX1 tyX1 tyX1_ok nmX1 (by decide) (by decide) (q := (0, 100)) rfl (by decide +kernel) (tg_at 294 (by decide +kernel) rfl) rfl hka (sI_at) (fun r hr _ => sI_off hr) (fun b hb => pF_sI_ne hb) (by rcases hz with h | h <;> subst h <;> decide) (by rcases hz with h | h <;> subst h <;> decide) hdg kk
theorem pf_X6_268 (hC : Cx p s m args c cc RX6 D cy ad tb) (hP : va_P D vwCl (pW cy ad S) H) (hS : va_S (pA ad s.heap.size) s.heap H locs) (hka : kd a = 6) {v : Int64} (eS : S1 = sJ S 610 a v) (hdg : decode cc pc = .ok (.putfield 268, 3)) (kk : ∀ (H1 : Heap) (locs1 : List Loc), va_P D vwCl (pW cy ad S1) H1 → va_S (pA ad s.heap.size) s.heap H1 locs1 → W p l e R s m args below meth c H1 locs1 cells slots Q (F0 m (pc + 3) ls rest)) : W p l e R s m args below meth c H locs cells slots Q (F0 m pc ls (.long v :: .ref (ad a) :: rest)) := by
  subst eS
  exact pg_put hC hP hS 6 10 rfl jX6 tyX6 tyX6_ok nmX6 (by decide) (by decide) (q := (1, 610)) rfl (by decide +kernel) (tg_at 327 (by decide +kernel) rfl) rfl hka (sJ_at) (fun r hr _ => sJ_off hr) (fun b hb => pF_sJ_ne hb) rfl rfl hdg kk
theorem pf_X7_16 (hC : Cx p s m args c cc RX7 D cy ad tb) (hP : va_P D vwCl (pW cy ad S) H) (hS : va_S (pA ad s.heap.size) s.heap H locs) (hka : kd a = 7) {v : Int32} (eS : S1 = sI S 704 a v) (hdg : decode cc pc = .ok (.putfield 16, 3)) (kk : ∀ (H1 : Heap) (locs1 : List Loc), va_P D vwCl (pW cy ad S1) H1 → va_S (pA ad s.heap.size) s.heap H1 locs1 → W p l e R s m args below meth c H1 locs1 cells slots Q (F0 m (pc + 3) ls rest)) : W p l e R s m args below meth c H locs cells slots Q (F0 m pc ls (.int v :: .ref (ad a) :: rest)) := by
  subst eS
  exact pg_put hC hP hS 7 4 rfl jX7 tyX7 tyX7_ok nmX7 (by decide) (by decide) (q := (0, 704)) rfl (by decide +kernel) (tg_at 762 (by decide +kernel) rfl) rfl hka (sI_at) (fun r hr _ => sI_off hr) (fun b hb => pF_sI_ne hb) rfl rfl hdg kk
theorem pf_X7_69 (hC : Cx p s m args c cc RX7 D cy ad tb) (hP : va_P D vwCl (pW cy ad S) H) (hS : va_S (pA ad s.heap.size) s.heap H locs) (hka : kd a = 7) {v : Int32} (eS : S1 = sI S 700 a v) (hdg : decode cc pc = .ok (.putfield 69, 3)) (kk : ∀ (H1 : Heap) (locs1 : List Loc), va_P D vwCl (pW cy ad S1) H1 → va_S (pA ad s.heap.size) s.heap H1 locs1 → W p l e R s m args below meth c H1 locs1 cells slots Q (F0 m (pc + 3) ls rest)) : W p l e R s m args below meth c H locs cells slots Q (F0 m pc ls (.int v :: .ref (ad a) :: rest)) := by
  subst eS
  exact pg_put hC hP hS 7 0 rfl jX7 tyX7 tyX7_ok nmX7 (by decide) (by decide) (q := (0, 700)) rfl (by decide +kernel) (tg_at 758 (by decide +kernel) rfl) rfl hka (sI_at) (fun r hr _ => sI_off hr) (fun b hb => pF_sI_ne hb) rfl rfl hdg kk
theorem pf_X7_76 (hC : Cx p s m args c cc RX7 D cy ad tb) (hP : va_P D vwCl (pW cy ad S) H) (hS : va_S (pA ad s.heap.size) s.heap H locs) (hka : kd a = 7) {v : Int32} (eS : S1 = sI S 702 a v) (hdg : decode cc pc = .ok (.putfield 76, 3)) (kk : ∀ (H1 : Heap) (locs1 : List Loc), va_P D vwCl (pW cy ad S1) H1 → va_S (pA ad s.heap.size) s.heap H1 locs1 → W p l e R s m args below meth c H1 locs1 cells slots Q (F0 m (pc + 3) ls rest)) : W p l e R s m args below meth c H locs cells slots Q (F0 m pc ls (.int v :: .ref (ad a) :: rest)) := by
  subst eS
  exact pg_put hC hP hS 7 2 rfl jX7 tyX7 tyX7_ok nmX7 (by decide) (by decide) (q := (0, 702)) rfl (by decide +kernel) (tg_at 760 (by decide +kernel) rfl) rfl hka (sI_at) (fun r hr _ => sI_off hr) (fun b hb => pF_sI_ne hb) rfl rfl hdg kk
theorem pf_X7_83 (hC : Cx p s m args c cc RX7 D cy ad tb) (hP : va_P D vwCl (pW cy ad S) H) (hS : va_S (pA ad s.heap.size) s.heap H locs) (hka : kd a = 7) {v : Int32} (eS : S1 = sI S 715 a v) (hdg : decode cc pc = .ok (.putfield 83, 3)) (kk : ∀ (H1 : Heap) (locs1 : List Loc), va_P D vwCl (pW cy ad S1) H1 → va_S (pA ad s.heap.size) s.heap H1 locs1 → W p l e R s m args below meth c H1 locs1 cells slots Q (F0 m (pc + 3) ls rest)) : W p l e R s m args below meth c H locs cells slots Q (F0 m pc ls (.int v :: .ref (ad a) :: rest)) := by
  subst eS
  exact pg_put hC hP hS 7 15 rfl jX7 tyX7 tyX7_ok nmX7 (by decide) (by decide) (q := (0, 715)) rfl (by decide +kernel) (tg_at 773 (by decide +kernel) rfl) rfl hka (sI_at) (fun r hr _ => sI_off hr) (fun b hb => pF_sI_ne hb) rfl rfl hdg kk
theorem pf_X7_86 (hC : Cx p s m args c cc RX7 D cy ad tb) (hP : va_P D vwCl (pW cy ad S) H) (hS : va_S (pA ad s.heap.size) s.heap H locs) (hka : kd a = 7) {v : Int32} (eS : S1 = sI S 716 a v) (hdg : decode cc pc = .ok (.putfield 86, 3)) (kk : ∀ (H1 : Heap) (locs1 : List Loc), va_P D vwCl (pW cy ad S1) H1 → va_S (pA ad s.heap.size) s.heap H1 locs1 → W p l e R s m args below meth c H1 locs1 cells slots Q (F0 m (pc + 3) ls rest)) : W p l e R s m args below meth c H locs cells slots Q (F0 m pc ls (.int v :: .ref (ad a) :: rest)) := by
  subst eS
  exact pg_put hC hP hS 7 16 rfl jX7 tyX7 tyX7_ok nmX7 (by decide) (by decide) (q := (0, 716)) rfl (by decide +kernel) (tg_at 774 (by decide +kernel) rfl) rfl hka (sI_at) (fun r hr _ => sI_off hr) (fun b hb => pF_sI_ne hb) rfl rfl hdg kk
theorem pf_X7_93 (hC : Cx p s m args c cc RX7 D cy ad tb) (hP : va_P D vwCl (pW cy ad S) H) (hS : va_S (pA ad s.heap.size) s.heap H locs) (hka : kd a = 7) {v : Int32} (eS : S1 = sI S 717 a v) (hdg : decode cc pc = .ok (.putfield 93, 3)) (kk : ∀ (H1 : Heap) (locs1 : List Loc), va_P D vwCl (pW cy ad S1) H1 → va_S (pA ad s.heap.size) s.heap H1 locs1 → W p l e R s m args below meth c H1 locs1 cells slots Q (F0 m (pc + 3) ls rest)) : W p l e R s m args below meth c H locs cells slots Q (F0 m pc ls (.int v :: .ref (ad a) :: rest)) := by
  subst eS
  exact pg_put hC hP hS 7 17 rfl jX7 tyX7 tyX7_ok nmX7 (by decide) (by decide) (q := (0, 717)) rfl (by decide +kernel) (tg_at 775 (by decide +kernel) rfl) rfl hka (sI_at) (fun r hr _ => sI_off hr) (fun b hb => pF_sI_ne hb) rfl rfl hdg kk
theorem pf_X7_96 (hC : Cx p s m args c cc RX7 D cy ad tb) (hP : va_P D vwCl (pW cy ad S) H) (hS : va_S (pA ad s.heap.size) s.heap H locs) (hka : kd a = 7) {v : Int32} (eS : S1 = sI S 719 a v) (hdg : decode cc pc = .ok (.putfield 96, 3)) (kk : ∀ (H1 : Heap) (locs1 : List Loc), va_P D vwCl (pW cy ad S1) H1 → va_S (pA ad s.heap.size) s.heap H1 locs1 → W p l e R s m args below meth c H1 locs1 cells slots Q (F0 m (pc + 3) ls rest)) : W p l e R s m args below meth c H locs cells slots Q (F0 m pc ls (.int v :: .ref (ad a) :: rest)) := by
  subst eS
  exact pg_put hC hP hS 7 19 rfl jX7 tyX7 tyX7_ok nmX7 (by decide) (by decide) (q := (0, 719)) rfl (by decide +kernel) (tg_at 777 (by decide +kernel) rfl) rfl hka (sI_at) (fun r hr _ => sI_off hr) (fun b hb => pF_sI_ne hb) rfl rfl hdg kk
theorem pf_X7_99 (hC : Cx p s m args c cc RX7 D cy ad tb) (hP : va_P D vwCl (pW cy ad S) H) (hS : va_S (pA ad s.heap.size) s.heap H locs) (hka : kd a = 7) {v : Int32} (eS : S1 = sI S 718 a v) (hdg : decode cc pc = .ok (.putfield 99, 3)) (kk : ∀ (H1 : Heap) (locs1 : List Loc), va_P D vwCl (pW cy ad S1) H1 → va_S (pA ad s.heap.size) s.heap H1 locs1 → W p l e R s m args below meth c H1 locs1 cells slots Q (F0 m (pc + 3) ls rest)) : W p l e R s m args below meth c H locs cells slots Q (F0 m pc ls (.int v :: .ref (ad a) :: rest)) := by
  subst eS
  exact pg_put hC hP hS 7 18 rfl jX7 tyX7 tyX7_ok nmX7 (by decide) (by decide) (q := (0, 718)) rfl (by decide +kernel) (tg_at 776 (by decide +kernel) rfl) rfl hka (sI_at) (fun r hr _ => sI_off hr) (fun b hb => pF_sI_ne hb) rfl rfl hdg kk
theorem pf_X7_108 (hC : Cx p s m args c cc RX7 D cy ad tb) (hP : va_P D vwCl (pW cy ad S) H) (hS : va_S (pA ad s.heap.size) s.heap H locs) (hka : kd a = 7) {v : Int32} (hz : v = 0 ∨ v = 1) (eS : S1 = sI S 720 a v) (hdg : decode cc pc = .ok (.putfield 108, 3)) (kk : ∀ (H1 : Heap) (locs1 : List Loc), va_P D vwCl (pW cy ad S1) H1 → va_S (pA ad s.heap.size) s.heap H1 locs1 → W p l e R s m args below meth c H1 locs1 cells slots Q (F0 m (pc + 3) ls rest)) : W p l e R s m args below meth c H locs cells slots Q (F0 m pc ls (.int v :: .ref (ad a) :: rest)) := by
  subst eS
  exact pg_put hC hP hS 7 20 rfl jX7 tyX7 tyX7_ok nmX7 (by decide) (by decide) (q := (0, 720)) rfl (by decide +kernel) (tg_at 778 (by decide +kernel) rfl) rfl hka (sI_at) (fun r hr _ => sI_off hr) (fun b hb => pF_sI_ne hb) (by rcases hz with h | h <;> subst h <;> decide) (by rcases hz with h | h <;> subst h <;> decide) hdg kk
theorem pf_X7_115 (hC : Cx p s m args c cc RX7 D cy ad tb) (hP : va_P D vwCl (pW cy ad S) H) (hS : va_S (pA ad s.heap.size) s.heap H locs) (hka : kd a = 7) {v : Int32} (eS : S1 = sI S 721 a v) (hdg : decode cc pc = .ok (.putfield 115, 3)) (kk : ∀ (H1 : Heap) (locs1 : List Loc), va_P D vwCl (pW cy ad S1) H1 → va_S (pA ad s.heap.size) s.heap H1 locs1 → W p l e R s m args below meth c H1 locs1 cells slots Q (F0 m (pc + 3) ls rest)) : W p l e R s m args below meth c H locs cells slots Q (F0 m pc ls (.int v :: .ref (ad a) :: rest)) := by
  subst eS
  exact pg_put hC hP hS 7 21 rfl jX7 tyX7 tyX7_ok nmX7 (by decide) (by decide) (q := (0, 721)) rfl (by decide +kernel) (tg_at 779 (by decide +kernel) rfl) rfl hka (sI_at) (fun r hr _ => sI_off hr) (fun b hb => pF_sI_ne hb) rfl rfl hdg kk
theorem pf_X7_122 (hC : Cx p s m args c cc RX7 D cy ad tb) (hP : va_P D vwCl (pW cy ad S) H) (hS : va_S (pA ad s.heap.size) s.heap H locs) (hka : kd a = 7) {v : Int32} (eS : S1 = sI S 723 a v) (hdg : decode cc pc = .ok (.putfield 122, 3)) (kk : ∀ (H1 : Heap) (locs1 : List Loc), va_P D vwCl (pW cy ad S1) H1 → va_S (pA ad s.heap.size) s.heap H1 locs1 → W p l e R s m args below meth c H1 locs1 cells slots Q (F0 m (pc + 3) ls rest)) : W p l e R s m args below meth c H locs cells slots Q (F0 m pc ls (.int v :: .ref (ad a) :: rest)) := by
  subst eS
  exact pg_put hC hP hS 7 23 rfl jX7 tyX7 tyX7_ok nmX7 (by decide) (by decide) (q := (0, 723)) rfl (by decide +kernel) (tg_at 781 (by decide +kernel) rfl) rfl hka (sI_at) (fun r hr _ => sI_off hr) (fun b hb => pF_sI_ne hb) rfl rfl hdg kk
theorem pf_X7_134 (hC : Cx p s m args c cc RX7 D cy ad tb) (hP : va_P D vwCl (pW cy ad S) H) (hS : va_S (pA ad s.heap.size) s.heap H locs) (hka : kd a = 7) {v : Int32} (eS : S1 = sI S 705 a v) (hdg : decode cc pc = .ok (.putfield 134, 3)) (kk : ∀ (H1 : Heap) (locs1 : List Loc), va_P D vwCl (pW cy ad S1) H1 → va_S (pA ad s.heap.size) s.heap H1 locs1 → W p l e R s m args below meth c H1 locs1 cells slots Q (F0 m (pc + 3) ls rest)) : W p l e R s m args below meth c H locs cells slots Q (F0 m pc ls (.int v :: .ref (ad a) :: rest)) := by
  subst eS
  exact pg_put hC hP hS 7 5 rfl jX7 tyX7 tyX7_ok nmX7 (by decide) (by decide) (q := (0, 705)) rfl (by decide +kernel) (tg_at 763 (by decide +kernel) rfl) rfl hka (sI_at) (fun r hr _ => sI_off hr) (fun b hb => pF_sI_ne hb) rfl rfl hdg kk
theorem pf_X7_137 (hC : Cx p s m args c cc RX7 D cy ad tb) (hP : va_P D vwCl (pW cy ad S) H) (hS : va_S (pA ad s.heap.size) s.heap H locs) (hka : kd a = 7) {v : Int32} (eS : S1 = sI S 708 a v) (hdg : decode cc pc = .ok (.putfield 137, 3)) (kk : ∀ (H1 : Heap) (locs1 : List Loc), va_P D vwCl (pW cy ad S1) H1 → va_S (pA ad s.heap.size) s.heap H1 locs1 → W p l e R s m args below meth c H1 locs1 cells slots Q (F0 m (pc + 3) ls rest)) : W p l e R s m args below meth c H locs cells slots Q (F0 m pc ls (.int v :: .ref (ad a) :: rest)) := by
  subst eS
  exact pg_put hC hP hS 7 8 rfl jX7 tyX7 tyX7_ok nmX7 (by decide) (by decide) (q := (0, 708)) rfl (by decide +kernel) (tg_at 766 (by decide +kernel) rfl) rfl hka (sI_at) (fun r hr _ => sI_off hr) (fun b hb => pF_sI_ne hb) rfl rfl hdg kk
theorem pf_X7_140 (hC : Cx p s m args c cc RX7 D cy ad tb) (hP : va_P D vwCl (pW cy ad S) H) (hS : va_S (pA ad s.heap.size) s.heap H locs) (hka : kd a = 7) {v : Int32} (eS : S1 = sI S 711 a v) (hdg : decode cc pc = .ok (.putfield 140, 3)) (kk : ∀ (H1 : Heap) (locs1 : List Loc), va_P D vwCl (pW cy ad S1) H1 → va_S (pA ad s.heap.size) s.heap H1 locs1 → W p l e R s m args below meth c H1 locs1 cells slots Q (F0 m (pc + 3) ls rest)) : W p l e R s m args below meth c H locs cells slots Q (F0 m pc ls (.int v :: .ref (ad a) :: rest)) := by
  subst eS
  exact pg_put hC hP hS 7 11 rfl jX7 tyX7 tyX7_ok nmX7 (by decide) (by decide) (q := (0, 711)) rfl (by decide +kernel) (tg_at 769 (by decide +kernel) rfl) rfl hka (sI_at) (fun r hr _ => sI_off hr) (fun b hb => pF_sI_ne hb) rfl rfl hdg kk
theorem pf_X7_179 (hC : Cx p s m args c cc RX7 D cy ad tb) (hP : va_P D vwCl (pW cy ad S) H) (hS : va_S (pA ad s.heap.size) s.heap H locs) (hka : kd a = 7) {v : Int32} (eS : S1 = sI S 732 a v) (hdg : decode cc pc = .ok (.putfield 179, 3)) (kk : ∀ (H1 : Heap) (locs1 : List Loc), va_P D vwCl (pW cy ad S1) H1 → va_S (pA ad s.heap.size) s.heap H1 locs1 → W p l e R s m args below meth c H1 locs1 cells slots Q (F0 m (pc + 3) ls rest)) : W p l e R s m args below meth c H locs cells slots Q (F0 m pc ls (.int v :: .ref (ad a) :: rest)) := by
  subst eS
  exact pg_put hC hP hS 7 32 rfl jX7 tyX7 tyX7_ok nmX7 (by decide) (by decide) (q := (0, 732)) rfl (by decide +kernel) (tg_at 790 (by decide +kernel) rfl) rfl hka (sI_at) (fun r hr _ => sI_off hr) (fun b hb => pF_sI_ne hb) rfl rfl hdg kk
theorem pf_X7_182 (hC : Cx p s m args c cc RX7 D cy ad tb) (hP : va_P D vwCl (pW cy ad S) H) (hS : va_S (pA ad s.heap.size) s.heap H locs) (hka : kd a = 7) {v : Int32} (eS : S1 = sI S 733 a v) (hdg : decode cc pc = .ok (.putfield 182, 3)) (kk : ∀ (H1 : Heap) (locs1 : List Loc), va_P D vwCl (pW cy ad S1) H1 → va_S (pA ad s.heap.size) s.heap H1 locs1 → W p l e R s m args below meth c H1 locs1 cells slots Q (F0 m (pc + 3) ls rest)) : W p l e R s m args below meth c H locs cells slots Q (F0 m pc ls (.int v :: .ref (ad a) :: rest)) := by
  subst eS
  exact pg_put hC hP hS 7 33 rfl jX7 tyX7 tyX7_ok nmX7 (by decide) (by decide) (q := (0, 733)) rfl (by decide +kernel) (tg_at 791 (by decide +kernel) rfl) rfl hka (sI_at) (fun r hr _ => sI_off hr) (fun b hb => pF_sI_ne hb) rfl rfl hdg kk
theorem pf_X7_218 (hC : Cx p s m args c cc RX7 D cy ad tb) (hP : va_P D vwCl (pW cy ad S) H) (hS : va_S (pA ad s.heap.size) s.heap H locs) (hka : kd a = 7) {v : Int64} (eS : S1 = sJ S 713 a v) (hdg : decode cc pc = .ok (.putfield 218, 3)) (kk : ∀ (H1 : Heap) (locs1 : List Loc), va_P D vwCl (pW cy ad S1) H1 → va_S (pA ad s.heap.size) s.heap H1 locs1 → W p l e R s m args below meth c H1 locs1 cells slots Q (F0 m (pc + 3) ls rest)) : W p l e R s m args below meth c H locs cells slots Q (F0 m pc ls (.long v :: .ref (ad a) :: rest)) := by
  subst eS
  exact pg_put hC hP hS 7 13 rfl jX7 tyX7 tyX7_ok nmX7 (by decide) (by decide) (q := (1, 713)) rfl (by decide +kernel) (tg_at 771 (by decide +kernel) rfl) rfl hka (sJ_at) (fun r hr _ => sJ_off hr) (fun b hb => pF_sJ_ne hb) rfl rfl hdg kk
theorem hd_X0_isWorn : yX0_isWorn.cls = RX0 ∧ yX0_isWorn.cls ≠ "java/lang/invoke/MethodHandle" ∧ yX0_isWorn.cls ≠ "java/lang/invoke/VarHandle" ∧ (parseMethodDescriptor yX0_isWorn.desc).map (fun d => d.parameters.length) = some 2 := by decide +kernel
theorem mi_X0_isWorn : Cond.instanceMethod yX0_isWorn ∈ lw_tg ∧ Cond.selects RX0 yX0_isWorn yX0_isWorn ∈ lw_tg ∧ Cond.initialized RX0 ∈ lw_tg ∧ Cond.code yX0_isWorn cX0_isWorn 3 (some .boolean) ∈ lw_tg := ⟨(tg_at 460 (by decide +kernel) rfl), (tg_at 461 (by decide +kernel) rfl), (tg_at 64 (by decide +kernel) rfl), (tg_at 462 (by decide +kernel) rfl)⟩
theorem hd_X4_unwornRate : yX4_unwornRate.cls = RX4 ∧ yX4_unwornRate.cls ≠ "java/lang/invoke/MethodHandle" ∧ yX4_unwornRate.cls ≠ "java/lang/invoke/VarHandle" ∧ (parseMethodDescriptor yX4_unwornRate.desc).map (fun d => d.parameters.length) = some 2 := by decide +kernel
theorem mi_X4_unwornRate : Cond.instanceMethod yX4_unwornRate ∈ lw_tg ∧ Cond.selects RX4 yX4_unwornRate yX4_unwornRate ∈ lw_tg ∧ Cond.initialized RX4 ∈ lw_tg ∧ Cond.code yX4_unwornRate cX4_unwornRate 5 (some .int) ∈ lw_tg := ⟨(tg_at 436 (by decide +kernel) rfl), (tg_at 437 (by decide +kernel) rfl), (tg_at 62 (by decide +kernel) rfl), (tg_at 438 (by decide +kernel) rfl)⟩
theorem hd_X0_wornOf : yX0_wornOf.cls = RX0 ∧ yX0_wornOf.cls ≠ "java/lang/invoke/MethodHandle" ∧ yX0_wornOf.cls ≠ "java/lang/invoke/VarHandle" ∧ (parseMethodDescriptor yX0_wornOf.desc).map (fun d => d.parameters.length) = some 2 := by decide +kernel
theorem mi_X0_wornOf : Cond.instanceMethod yX0_wornOf ∈ lw_tg ∧ Cond.selects RX0 yX0_wornOf yX0_wornOf ∈ lw_tg ∧ Cond.initialized RX0 ∈ lw_tg ∧ Cond.code yX0_wornOf cX0_wornOf 5 (some .int) ∈ lw_tg := ⟨(tg_at 485 (by decide +kernel) rfl), (tg_at 486 (by decide +kernel) rfl), (tg_at 64 (by decide +kernel) rfl), (tg_at 487 (by decide +kernel) rfl)⟩
theorem hd_X0_minutesOn : yX0_minutesOn.cls = RX0 ∧ yX0_minutesOn.cls ≠ "java/lang/invoke/MethodHandle" ∧ yX0_minutesOn.cls ≠ "java/lang/invoke/VarHandle" ∧ (parseMethodDescriptor yX0_minutesOn.desc).map (fun d => d.parameters.length) = some 3 := by decide +kernel
theorem mi_X0_minutesOn : Cond.instanceMethod yX0_minutesOn ∈ lw_tg ∧ Cond.selects RX0 yX0_minutesOn yX0_minutesOn ∈ lw_tg ∧ Cond.initialized RX0 ∈ lw_tg ∧ Cond.code yX0_minutesOn cX0_minutesOn 4 (some .int) ∈ lw_tg := ⟨(tg_at 480 (by decide +kernel) rfl), (tg_at 481 (by decide +kernel) rfl), (tg_at 64 (by decide +kernel) rfl), (tg_at 482 (by decide +kernel) rfl)⟩
theorem hd_X0_tire : yX0_tire.cls = RX0 ∧ yX0_tire.cls ≠ "java/lang/invoke/MethodHandle" ∧ yX0_tire.cls ≠ "java/lang/invoke/VarHandle" ∧ (parseMethodDescriptor yX0_tire.desc).map (fun d => d.parameters.length) = some 2 := by decide +kernel
theorem mi_X0_tire : Cond.instanceMethod yX0_tire ∈ lw_tg ∧ Cond.selects RX0 yX0_tire yX0_tire ∈ lw_tg ∧ Cond.initialized RX0 ∈ lw_tg ∧ Cond.code yX0_tire cX0_tire 4 none ∈ lw_tg := ⟨(tg_at 514 (by decide +kernel) rfl), (tg_at 515 (by decide +kernel) rfl), (tg_at 64 (by decide +kernel) rfl), (tg_at 516 (by decide +kernel) rfl)⟩
theorem hd_X0_copy : yX0_copy.cls = RX0 ∧ yX0_copy.cls ≠ "java/lang/invoke/MethodHandle" ∧ yX0_copy.cls ≠ "java/lang/invoke/VarHandle" ∧ (parseMethodDescriptor yX0_copy.desc).map (fun d => d.parameters.length) = some 1 := by decide +kernel
theorem mi_X0_copy : Cond.instanceMethod yX0_copy ∈ lw_tg ∧ Cond.selects RX0 yX0_copy yX0_copy ∈ lw_tg ∧ Cond.initialized RX0 ∈ lw_tg ∧ Cond.code yX0_copy cX0_copy 3 none ∈ lw_tg := ⟨(tg_at 506 (by decide +kernel) rfl), (tg_at 507 (by decide +kernel) rfl), (tg_at 64 (by decide +kernel) rfl), (tg_at 508 (by decide +kernel) rfl)⟩
theorem hd_X1_search : yX1_search.cls = RX1 ∧ yX1_search.cls ≠ "java/lang/invoke/MethodHandle" ∧ yX1_search.cls ≠ "java/lang/invoke/VarHandle" ∧ (parseMethodDescriptor yX1_search.desc).map (fun d => d.parameters.length) = some 2 := by decide +kernel
theorem mi_X1_search : Cond.instanceMethod yX1_search ∈ lw_tg ∧ Cond.selects RX1 yX1_search yX1_search ∈ lw_tg ∧ Cond.initialized RX1 ∈ lw_tg ∧ Cond.code yX1_search cX1_search 8 none ∈ lw_tg := ⟨(tg_at 572 (by decide +kernel) rfl), (tg_at 11 (by decide +kernel) rfl), (tg_at 66 (by decide +kernel) rfl), (tg_at 573 (by decide +kernel) rfl)⟩
theorem hd_X1_take : yX1_take.cls = RX1 ∧ yX1_take.cls ≠ "java/lang/invoke/MethodHandle" ∧ yX1_take.cls ≠ "java/lang/invoke/VarHandle" ∧ (parseMethodDescriptor yX1_take.desc).map (fun d => d.parameters.length) = some 1 := by decide +kernel
theorem mi_X1_take : Cond.instanceMethod yX1_take ∈ lw_tg ∧ Cond.selects RX1 yX1_take yX1_take ∈ lw_tg ∧ Cond.initialized RX1 ∈ lw_tg ∧ Cond.code yX1_take cX1_take 3 none ∈ lw_tg := ⟨(tg_at 576 (by decide +kernel) rfl), (tg_at 12 (by decide +kernel) rfl), (tg_at 66 (by decide +kernel) rfl), (tg_at 577 (by decide +kernel) rfl)⟩
theorem hd_X0_minutesToWalk : yX0_minutesToWalk.cls = RX0 ∧ yX0_minutesToWalk.cls ≠ "java/lang/invoke/MethodHandle" ∧ yX0_minutesToWalk.cls ≠ "java/lang/invoke/VarHandle" ∧ (parseMethodDescriptor yX0_minutesToWalk.desc).map (fun d => d.parameters.length) = some 2 := by decide +kernel
theorem mi_X0_minutesToWalk : Cond.instanceMethod yX0_minutesToWalk ∈ lw_tg ∧ Cond.selects RX0 yX0_minutesToWalk yX0_minutesToWalk ∈ lw_tg ∧ Cond.initialized RX0 ∈ lw_tg ∧ Cond.code yX0_minutesToWalk cX0_minutesToWalk 4 (some .int) ∈ lw_tg := ⟨(tg_at 493 (by decide +kernel) rfl), (tg_at 494 (by decide +kernel) rfl), (tg_at 64 (by decide +kernel) rfl), (tg_at 495 (by decide +kernel) rfl)⟩
theorem hd_X1_mayBeQuicker : yX1_mayBeQuicker.cls = RX1 ∧ yX1_mayBeQuicker.cls ≠ "java/lang/invoke/MethodHandle" ∧ yX1_mayBeQuicker.cls ≠ "java/lang/invoke/VarHandle" ∧ (parseMethodDescriptor yX1_mayBeQuicker.desc).map (fun d => d.parameters.length) = some 3 := by decide +kernel
theorem mi_X1_mayBeQuicker : Cond.instanceMethod yX1_mayBeQuicker ∈ lw_tg ∧ Cond.selects RX1 yX1_mayBeQuicker yX1_mayBeQuicker ∈ lw_tg ∧ Cond.initialized RX1 ∈ lw_tg ∧ Cond.code yX1_mayBeQuicker cX1_mayBeQuicker 4 (some .boolean) ∈ lw_tg := ⟨(tg_at 582 (by decide +kernel) rfl), (tg_at 13 (by decide +kernel) rfl), (tg_at 66 (by decide +kernel) rfl), (tg_at 583 (by decide +kernel) rfl)⟩
theorem hd_X0_walkOn : yX0_walkOn.cls = RX0 ∧ yX0_walkOn.cls ≠ "java/lang/invoke/MethodHandle" ∧ yX0_walkOn.cls ≠ "java/lang/invoke/VarHandle" ∧ (parseMethodDescriptor yX0_walkOn.desc).map (fun d => d.parameters.length) = some 3 := by decide +kernel
theorem mi_X0_walkOn : Cond.instanceMethod yX0_walkOn ∈ lw_tg ∧ Cond.selects RX0 yX0_walkOn yX0_walkOn ∈ lw_tg ∧ Cond.initialized RX0 ∈ lw_tg ∧ Cond.code yX0_walkOn cX0_walkOn 4 none ∈ lw_tg := ⟨(tg_at 510 (by decide +kernel) rfl), (tg_at 511 (by decide +kernel) rfl), (tg_at 64 (by decide +kernel) rfl), (tg_at 512 (by decide +kernel) rfl)⟩
theorem hd_X4_empty : yX4_empty.cls = RX4 ∧ yX4_empty.cls ≠ "java/lang/invoke/MethodHandle" ∧ yX4_empty.cls ≠ "java/lang/invoke/VarHandle" ∧ (parseMethodDescriptor yX4_empty.desc).map (fun d => d.parameters.length) = some 0 := by decide +kernel
theorem mi_X4_empty : Cond.instanceMethod yX4_empty ∈ lw_tg ∧ Cond.selects RX4 yX4_empty yX4_empty ∈ lw_tg ∧ Cond.initialized RX4 ∈ lw_tg ∧ Cond.code yX4_empty cX4_empty 1 none ∈ lw_tg := ⟨(tg_at 368 (by decide +kernel) rfl), (tg_at 369 (by decide +kernel) rfl), (tg_at 62 (by decide +kernel) rfl), (tg_at 370 (by decide +kernel) rfl)⟩
theorem hd_X2_nextToken : yX2_nextToken.cls = RX2 ∧ yX2_nextToken.cls ≠ "java/lang/invoke/MethodHandle" ∧ yX2_nextToken.cls ≠ "java/lang/invoke/VarHandle" ∧ (parseMethodDescriptor yX2_nextToken.desc).map (fun d => d.parameters.length) = some 0 := by decide +kernel
theorem mi_X2_nextToken : Cond.instanceMethod yX2_nextToken ∈ lw_tg ∧ Cond.selects RX2 yX2_nextToken yX2_nextToken ∈ lw_tg ∧ Cond.initialized RX2 ∈ lw_tg ∧ Cond.code yX2_nextToken cX2_nextToken 1 none ∈ lw_tg := ⟨(tg_at 373 (by decide +kernel) rfl), (tg_at 0 (by decide +kernel) rfl), (tg_at 61 (by decide +kernel) rfl), (tg_at 374 (by decide +kernel) rfl)⟩
theorem hd_X2_readItem : yX2_readItem.cls = RX2 ∧ yX2_readItem.cls ≠ "java/lang/invoke/MethodHandle" ∧ yX2_readItem.cls ≠ "java/lang/invoke/VarHandle" ∧ (parseMethodDescriptor yX2_readItem.desc).map (fun d => d.parameters.length) = some 1 := by decide +kernel
theorem mi_X2_readItem : Cond.instanceMethod yX2_readItem ∈ lw_tg ∧ Cond.selects RX2 yX2_readItem yX2_readItem ∈ lw_tg ∧ Cond.initialized RX2 ∈ lw_tg ∧ Cond.code yX2_readItem cX2_readItem 3 (some .boolean) ∈ lw_tg := ⟨(tg_at 394 (by decide +kernel) rfl), (tg_at 3 (by decide +kernel) rfl), (tg_at 61 (by decide +kernel) rfl), (tg_at 395 (by decide +kernel) rfl)⟩
theorem hd_X4_prepare : yX4_prepare.cls = RX4 ∧ yX4_prepare.cls ≠ "java/lang/invoke/MethodHandle" ∧ yX4_prepare.cls ≠ "java/lang/invoke/VarHandle" ∧ (parseMethodDescriptor yX4_prepare.desc).map (fun d => d.parameters.length) = some 0 := by decide +kernel
theorem mi_X4_prepare : Cond.instanceMethod yX4_prepare ∈ lw_tg ∧ Cond.selects RX4 yX4_prepare yX4_prepare ∈ lw_tg ∧ Cond.initialized RX4 ∈ lw_tg ∧ Cond.code yX4_prepare cX4_prepare 3 none ∈ lw_tg := ⟨(tg_at 428 (by decide +kernel) rfl), (tg_at 429 (by decide +kernel) rfl), (tg_at 62 (by decide +kernel) rfl), (tg_at 430 (by decide +kernel) rfl)⟩
theorem hd_X2_mayBegin : yX2_mayBegin.cls = RX2 ∧ yX2_mayBegin.cls ≠ "java/lang/invoke/MethodHandle" ∧ yX2_mayBegin.cls ≠ "java/lang/invoke/VarHandle" ∧ (parseMethodDescriptor yX2_mayBegin.desc).map (fun d => d.parameters.length) = some 2 := by decide +kernel
theorem mi_X2_mayBegin : Cond.instanceMethod yX2_mayBegin ∈ lw_tg ∧ Cond.selects RX2 yX2_mayBegin yX2_mayBegin ∈ lw_tg ∧ Cond.initialized RX2 ∈ lw_tg ∧ Cond.code yX2_mayBegin cX2_mayBegin 3 (some .boolean) ∈ lw_tg := ⟨(tg_at 398 (by decide +kernel) rfl), (tg_at 4 (by decide +kernel) rfl), (tg_at 61 (by decide +kernel) rfl), (tg_at 399 (by decide +kernel) rfl)⟩
theorem hd_X2_boundsOf : yX2_boundsOf.cls ≠ "java/lang/invoke/MethodHandle" ∧ yX2_boundsOf.cls ≠ "java/lang/invoke/VarHandle" ∧ (parseMethodDescriptor yX2_boundsOf.desc).map (fun d => d.parameters.length) = some 1 := by decide +kernel
theorem mi_X2_boundsOf : Cond.static yX2_boundsOf ∈ lw_tg ∧ Cond.initialized yX2_boundsOf.cls ∈ lw_tg ∧ Cond.code yX2_boundsOf cX2_boundsOf 1 (some (.array .int)) ∈ lw_tg := ⟨(tg_at 401 (by decide +kernel) rfl), (tg_at 61 (by decide +kernel) rfl), (tg_at 402 (by decide +kernel) rfl)⟩
theorem hd_X2_readNumbers : yX2_readNumbers.cls = RX2 ∧ yX2_readNumbers.cls ≠ "java/lang/invoke/MethodHandle" ∧ yX2_readNumbers.cls ≠ "java/lang/invoke/VarHandle" ∧ (parseMethodDescriptor yX2_readNumbers.desc).map (fun d => d.parameters.length) = some 1 := by decide +kernel
theorem mi_X2_readNumbers : Cond.instanceMethod yX2_readNumbers ∈ lw_tg ∧ Cond.selects RX2 yX2_readNumbers yX2_readNumbers ∈ lw_tg ∧ Cond.initialized RX2 ∈ lw_tg ∧ Cond.code yX2_readNumbers cX2_readNumbers 3 (some .boolean) ∈ lw_tg := ⟨(tg_at 413 (by decide +kernel) rfl), (tg_at 5 (by decide +kernel) rfl), (tg_at 61 (by decide +kernel) rfl), (tg_at 414 (by decide +kernel) rfl)⟩
theorem hd_X2_tell : yX2_tell.cls = RX2 ∧ yX2_tell.cls ≠ "java/lang/invoke/MethodHandle" ∧ yX2_tell.cls ≠ "java/lang/invoke/VarHandle" ∧ (parseMethodDescriptor yX2_tell.desc).map (fun d => d.parameters.length) = some 2 := by decide +kernel
theorem mi_X2_tell : Cond.instanceMethod yX2_tell ∈ lw_tg ∧ Cond.selects RX2 yX2_tell yX2_tell ∈ lw_tg ∧ Cond.initialized RX2 ∈ lw_tg ∧ Cond.code yX2_tell cX2_tell 3 none ∈ lw_tg := ⟨(tg_at 417 (by decide +kernel) rfl), (tg_at 6 (by decide +kernel) rfl), (tg_at 61 (by decide +kernel) rfl), (tg_at 418 (by decide +kernel) rfl)⟩
theorem hd_X4_addWalker : yX4_addWalker.cls = RX4 ∧ yX4_addWalker.cls ≠ "java/lang/invoke/MethodHandle" ∧ yX4_addWalker.cls ≠ "java/lang/invoke/VarHandle" ∧ (parseMethodDescriptor yX4_addWalker.desc).map (fun d => d.parameters.length) = some 2 := by decide +kernel
theorem mi_X4_addWalker : Cond.instanceMethod yX4_addWalker ∈ lw_tg ∧ Cond.selects RX4 yX4_addWalker yX4_addWalker ∈ lw_tg ∧ Cond.initialized RX4 ∈ lw_tg ∧ Cond.code yX4_addWalker cX4_addWalker 3 none ∈ lw_tg := ⟨(tg_at 420 (by decide +kernel) rfl), (tg_at 421 (by decide +kernel) rfl), (tg_at 62 (by decide +kernel) rfl), (tg_at 422 (by decide +kernel) rfl)⟩
theorem hd_X4_addStretch : yX4_addStretch.cls = RX4 ∧ yX4_addStretch.cls ≠ "java/lang/invoke/MethodHandle" ∧ yX4_addStretch.cls ≠ "java/lang/invoke/VarHandle" ∧ (parseMethodDescriptor yX4_addStretch.desc).map (fun d => d.parameters.length) = some 4 := by decide +kernel
theorem mi_X4_addStretch : Cond.instanceMethod yX4_addStretch ∈ lw_tg ∧ Cond.selects RX4 yX4_addStretch yX4_addStretch ∈ lw_tg ∧ Cond.initialized RX4 ∈ lw_tg ∧ Cond.code yX4_addStretch cX4_addStretch 5 none ∈ lw_tg := ⟨(tg_at 424 (by decide +kernel) rfl), (tg_at 425 (by decide +kernel) rfl), (tg_at 62 (by decide +kernel) rfl), (tg_at 426 (by decide +kernel) rfl)⟩
theorem hd_X2_isLetter : yX2_isLetter.cls ≠ "java/lang/invoke/MethodHandle" ∧ yX2_isLetter.cls ≠ "java/lang/invoke/VarHandle" ∧ (parseMethodDescriptor yX2_isLetter.desc).map (fun d => d.parameters.length) = some 1 := by decide +kernel
theorem mi_X2_isLetter : Cond.static yX2_isLetter ∈ lw_tg ∧ Cond.initialized yX2_isLetter.cls ∈ lw_tg ∧ Cond.code yX2_isLetter cX2_isLetter 1 (some .boolean) ∈ lw_tg := ⟨(tg_at 376 (by decide +kernel) rfl), (tg_at 61 (by decide +kernel) rfl), (tg_at 377 (by decide +kernel) rfl)⟩
theorem hd_X2_takeLetters : yX2_takeLetters.cls = RX2 ∧ yX2_takeLetters.cls ≠ "java/lang/invoke/MethodHandle" ∧ yX2_takeLetters.cls ≠ "java/lang/invoke/VarHandle" ∧ (parseMethodDescriptor yX2_takeLetters.desc).map (fun d => d.parameters.length) = some 0 := by decide +kernel
theorem mi_X2_takeLetters : Cond.instanceMethod yX2_takeLetters ∈ lw_tg ∧ Cond.selects RX2 yX2_takeLetters yX2_takeLetters ∈ lw_tg ∧ Cond.initialized RX2 ∈ lw_tg ∧ Cond.code yX2_takeLetters cX2_takeLetters 1 none ∈ lw_tg := ⟨(tg_at 380 (by decide +kernel) rfl), (tg_at 1 (by decide +kernel) rfl), (tg_at 61 (by decide +kernel) rfl), (tg_at 381 (by decide +kernel) rfl)⟩
theorem hd_X2_isDigit : yX2_isDigit.cls ≠ "java/lang/invoke/MethodHandle" ∧ yX2_isDigit.cls ≠ "java/lang/invoke/VarHandle" ∧ (parseMethodDescriptor yX2_isDigit.desc).map (fun d => d.parameters.length) = some 1 := by decide +kernel
theorem mi_X2_isDigit : Cond.static yX2_isDigit ∈ lw_tg ∧ Cond.initialized yX2_isDigit.cls ∈ lw_tg ∧ Cond.code yX2_isDigit cX2_isDigit 1 (some .boolean) ∈ lw_tg := ⟨(tg_at 383 (by decide +kernel) rfl), (tg_at 61 (by decide +kernel) rfl), (tg_at 384 (by decide +kernel) rfl)⟩
theorem hd_X2_takeNumber : yX2_takeNumber.cls = RX2 ∧ yX2_takeNumber.cls ≠ "java/lang/invoke/MethodHandle" ∧ yX2_takeNumber.cls ≠ "java/lang/invoke/VarHandle" ∧ (parseMethodDescriptor yX2_takeNumber.desc).map (fun d => d.parameters.length) = some 0 := by decide +kernel
theorem mi_X2_takeNumber : Cond.instanceMethod yX2_takeNumber ∈ lw_tg ∧ Cond.selects RX2 yX2_takeNumber yX2_takeNumber ∈ lw_tg ∧ Cond.initialized RX2 ∈ lw_tg ∧ Cond.code yX2_takeNumber cX2_takeNumber 2 none ∈ lw_tg := ⟨(tg_at 387 (by decide +kernel) rfl), (tg_at 2 (by decide +kernel) rfl), (tg_at 61 (by decide +kernel) rfl), (tg_at 388 (by decide +kernel) rfl)⟩
theorem hd_X3_gatherDue : yX3_gatherDue.cls = RX3 ∧ yX3_gatherDue.cls ≠ "java/lang/invoke/MethodHandle" ∧ yX3_gatherDue.cls ≠ "java/lang/invoke/VarHandle" ∧ (parseMethodDescriptor yX3_gatherDue.desc).map (fun d => d.parameters.length) = some 0 := by decide +kernel
theorem mi_X3_gatherDue : Cond.instanceMethod yX3_gatherDue ∈ lw_tg ∧ Cond.selects RX3 yX3_gatherDue yX3_gatherDue ∈ lw_tg ∧ Cond.initialized RX3 ∈ lw_tg ∧ Cond.code yX3_gatherDue cX3_gatherDue 3 (some .boolean) ∈ lw_tg := ⟨(tg_at 659 (by decide +kernel) rfl), (tg_at 17 (by decide +kernel) rfl), (tg_at 65 (by decide +kernel) rfl), (tg_at 660 (by decide +kernel) rfl)⟩
theorem hd_X0_begin : yX0_begin.cls = RX0 ∧ yX0_begin.cls ≠ "java/lang/invoke/MethodHandle" ∧ yX0_begin.cls ≠ "java/lang/invoke/VarHandle" ∧ (parseMethodDescriptor yX0_begin.desc).map (fun d => d.parameters.length) = some 0 := by decide +kernel
theorem mi_X0_begin : Cond.instanceMethod yX0_begin ∈ lw_tg ∧ Cond.selects RX0 yX0_begin yX0_begin ∈ lw_tg ∧ Cond.initialized RX0 ∈ lw_tg ∧ Cond.code yX0_begin cX0_begin 2 none ∈ lw_tg := ⟨(tg_at 448 (by decide +kernel) rfl), (tg_at 449 (by decide +kernel) rfl), (tg_at 64 (by decide +kernel) rfl), (tg_at 450 (by decide +kernel) rfl)⟩
theorem hd_X3_search : yX3_search.cls = RX3 ∧ yX3_search.cls ≠ "java/lang/invoke/MethodHandle" ∧ yX3_search.cls ≠ "java/lang/invoke/VarHandle" ∧ (parseMethodDescriptor yX3_search.desc).map (fun d => d.parameters.length) = some 2 := by decide +kernel
theorem mi_X3_search : Cond.instanceMethod yX3_search ∈ lw_tg ∧ Cond.selects RX3 yX3_search yX3_search ∈ lw_tg ∧ Cond.initialized RX3 ∈ lw_tg ∧ Cond.code yX3_search cX3_search 8 none ∈ lw_tg := ⟨(tg_at 665 (by decide +kernel) rfl), (tg_at 18 (by decide +kernel) rfl), (tg_at 65 (by decide +kernel) rfl), (tg_at 666 (by decide +kernel) rfl)⟩
theorem hd_X3_addRows : yX3_addRows.cls = RX3 ∧ yX3_addRows.cls ≠ "java/lang/invoke/MethodHandle" ∧ yX3_addRows.cls ≠ "java/lang/invoke/VarHandle" ∧ (parseMethodDescriptor yX3_addRows.desc).map (fun d => d.parameters.length) = some 2 := by decide +kernel
theorem mi_X3_addRows : Cond.instanceMethod yX3_addRows ∈ lw_tg ∧ Cond.selects RX3 yX3_addRows yX3_addRows ∈ lw_tg ∧ Cond.initialized RX3 ∈ lw_tg ∧ Cond.code yX3_addRows cX3_addRows 5 none ∈ lw_tg := ⟨(tg_at 669 (by decide +kernel) rfl), (tg_at 19 (by decide +kernel) rfl), (tg_at 65 (by decide +kernel) rfl), (tg_at 670 (by decide +kernel) rfl)⟩
theorem hd_X3_mayFit : yX3_mayFit.cls = RX3 ∧ yX3_mayFit.cls ≠ "java/lang/invoke/MethodHandle" ∧ yX3_mayFit.cls ≠ "java/lang/invoke/VarHandle" ∧ (parseMethodDescriptor yX3_mayFit.desc).map (fun d => d.parameters.length) = some 3 := by decide +kernel
theorem mi_X3_mayFit : Cond.instanceMethod yX3_mayFit ∈ lw_tg ∧ Cond.selects RX3 yX3_mayFit yX3_mayFit ∈ lw_tg ∧ Cond.initialized RX3 ∈ lw_tg ∧ Cond.code yX3_mayFit cX3_mayFit 7 (some .boolean) ∈ lw_tg := ⟨(tg_at 678 (by decide +kernel) rfl), (tg_at 20 (by decide +kernel) rfl), (tg_at 65 (by decide +kernel) rfl), (tg_at 679 (by decide +kernel) rfl)⟩
theorem hd_X6_power : yX6_power.cls ≠ "java/lang/invoke/MethodHandle" ∧ yX6_power.cls ≠ "java/lang/invoke/VarHandle" ∧ (parseMethodDescriptor yX6_power.desc).map (fun d => d.parameters.length) = some 2 := by decide +kernel
theorem mi_X6_power : Cond.static yX6_power ∈ lw_tg ∧ Cond.initialized yX6_power.cls ∈ lw_tg ∧ Cond.code yX6_power cX6_power 4 (some .int) ∈ lw_tg := ⟨(tg_at 631 (by decide +kernel) rfl), (tg_at 60 (by decide +kernel) rfl), (tg_at 632 (by decide +kernel) rfl)⟩
theorem hd_X3_bitsOf : yX3_bitsOf.cls ≠ "java/lang/invoke/MethodHandle" ∧ yX3_bitsOf.cls ≠ "java/lang/invoke/VarHandle" ∧ (parseMethodDescriptor yX3_bitsOf.desc).map (fun d => d.parameters.length) = some 1 := by decide +kernel
theorem mi_X3_bitsOf : Cond.static yX3_bitsOf ∈ lw_tg ∧ Cond.initialized yX3_bitsOf.cls ∈ lw_tg ∧ Cond.code yX3_bitsOf cX3_bitsOf 1 (some .int) ∈ lw_tg := ⟨(tg_at 673 (by decide +kernel) rfl), (tg_at 65 (by decide +kernel) rfl), (tg_at 674 (by decide +kernel) rfl)⟩
theorem hd_X4_boundMinutes : yX4_boundMinutes.cls = RX4 ∧ yX4_boundMinutes.cls ≠ "java/lang/invoke/MethodHandle" ∧ yX4_boundMinutes.cls ≠ "java/lang/invoke/VarHandle" ∧ (parseMethodDescriptor yX4_boundMinutes.desc).map (fun d => d.parameters.length) = some 1 := by decide +kernel
theorem mi_X4_boundMinutes : Cond.instanceMethod yX4_boundMinutes ∈ lw_tg ∧ Cond.selects RX4 yX4_boundMinutes yX4_boundMinutes ∈ lw_tg ∧ Cond.initialized RX4 ∈ lw_tg ∧ Cond.code yX4_boundMinutes cX4_boundMinutes 6 none ∈ lw_tg := ⟨(tg_at 433 (by decide +kernel) rfl), (tg_at 7 (by decide +kernel) rfl), (tg_at 62 (by decide +kernel) rfl), (tg_at 434 (by decide +kernel) rfl)⟩
theorem hd_X5_loseOldest : yX5_loseOldest.cls = RX5 ∧ yX5_loseOldest.cls ≠ "java/lang/invoke/MethodHandle" ∧ yX5_loseOldest.cls ≠ "java/lang/invoke/VarHandle" ∧ (parseMethodDescriptor yX5_loseOldest.desc).map (fun d => d.parameters.length) = some 0 := by decide +kernel
theorem mi_X5_loseOldest : Cond.instanceMethod yX5_loseOldest ∈ lw_tg ∧ Cond.selects RX5 yX5_loseOldest yX5_loseOldest ∈ lw_tg ∧ Cond.initialized RX5 ∈ lw_tg ∧ Cond.code yX5_loseOldest cX5_loseOldest 3 none ∈ lw_tg := ⟨(tg_at 503 (by decide +kernel) rfl), (tg_at 9 (by decide +kernel) rfl), (tg_at 63 (by decide +kernel) rfl), (tg_at 504 (by decide +kernel) rfl)⟩
theorem hd_X2_readInto : yX2_readInto.cls = RX2 ∧ yX2_readInto.cls ≠ "java/lang/invoke/MethodHandle" ∧ yX2_readInto.cls ≠ "java/lang/invoke/VarHandle" ∧ (parseMethodDescriptor yX2_readInto.desc).map (fun d => d.parameters.length) = some 1 := by decide +kernel
theorem mi_X2_readInto : Cond.instanceMethod yX2_readInto ∈ lw_tg ∧ Cond.selects RX2 yX2_readInto yX2_readInto ∈ lw_tg ∧ Cond.initialized RX2 ∈ lw_tg ∧ Cond.code yX2_readInto cX2_readInto 4 (some .int) ∈ lw_tg := ⟨(tg_at 364 (by decide +kernel) rfl), (tg_at 365 (by decide +kernel) rfl), (tg_at 61 (by decide +kernel) rfl), (tg_at 366 (by decide +kernel) rfl)⟩
theorem hd_X5_restart : yX5_restart.cls = RX5 ∧ yX5_restart.cls ≠ "java/lang/invoke/MethodHandle" ∧ yX5_restart.cls ≠ "java/lang/invoke/VarHandle" ∧ (parseMethodDescriptor yX5_restart.desc).map (fun d => d.parameters.length) = some 0 := by decide +kernel
theorem mi_X5_restart : Cond.instanceMethod yX5_restart ∈ lw_tg ∧ Cond.selects RX5 yX5_restart yX5_restart ∈ lw_tg ∧ Cond.initialized RX5 ∈ lw_tg ∧ Cond.code yX5_restart cX5_restart 1 none ∈ lw_tg := ⟨(tg_at 444 (by decide +kernel) rfl), (tg_at 445 (by decide +kernel) rfl), (tg_at 63 (by decide +kernel) rfl), (tg_at 446 (by decide +kernel) rfl)⟩
theorem hd_X6_moved : yX6_moved.cls = RX6 ∧ yX6_moved.cls ≠ "java/lang/invoke/MethodHandle" ∧ yX6_moved.cls ≠ "java/lang/invoke/VarHandle" ∧ (parseMethodDescriptor yX6_moved.desc).map (fun d => d.parameters.length) = some 0 := by decide +kernel
theorem mi_X6_moved : Cond.instanceMethod yX6_moved ∈ lw_tg ∧ Cond.selects RX6 yX6_moved yX6_moved ∈ lw_tg ∧ Cond.initialized RX6 ∈ lw_tg ∧ Cond.code yX6_moved cX6_moved 1 none ∈ lw_tg := ⟨(tg_at 453 (by decide +kernel) rfl), (tg_at 8 (by decide +kernel) rfl), (tg_at 60 (by decide +kernel) rfl), (tg_at 454 (by decide +kernel) rfl)⟩
theorem hd_X4_hasStretch : yX4_hasStretch.cls = RX4 ∧ yX4_hasStretch.cls ≠ "java/lang/invoke/MethodHandle" ∧ yX4_hasStretch.cls ≠ "java/lang/invoke/VarHandle" ∧ (parseMethodDescriptor yX4_hasStretch.desc).map (fun d => d.parameters.length) = some 1 := by decide +kernel
theorem mi_X4_hasStretch : Cond.instanceMethod yX4_hasStretch ∈ lw_tg ∧ Cond.selects RX4 yX4_hasStretch yX4_hasStretch ∈ lw_tg ∧ Cond.initialized RX4 ∈ lw_tg ∧ Cond.code yX4_hasStretch cX4_hasStretch 2 (some .boolean) ∈ lw_tg := ⟨(tg_at 468 (by decide +kernel) rfl), (tg_at 469 (by decide +kernel) rfl), (tg_at 62 (by decide +kernel) rfl), (tg_at 470 (by decide +kernel) rfl)⟩
theorem hd_X4_hasPair : yX4_hasPair.cls = RX4 ∧ yX4_hasPair.cls ≠ "java/lang/invoke/MethodHandle" ∧ yX4_hasPair.cls ≠ "java/lang/invoke/VarHandle" ∧ (parseMethodDescriptor yX4_hasPair.desc).map (fun d => d.parameters.length) = some 1 := by decide +kernel
theorem mi_X4_hasPair : Cond.instanceMethod yX4_hasPair ∈ lw_tg ∧ Cond.selects RX4 yX4_hasPair yX4_hasPair ∈ lw_tg ∧ Cond.initialized RX4 ∈ lw_tg ∧ Cond.code yX4_hasPair cX4_hasPair 2 (some .boolean) ∈ lw_tg := ⟨(tg_at 476 (by decide +kernel) rfl), (tg_at 477 (by decide +kernel) rfl), (tg_at 62 (by decide +kernel) rfl), (tg_at 478 (by decide +kernel) rfl)⟩
theorem hd_X5_remember : yX5_remember.cls = RX5 ∧ yX5_remember.cls ≠ "java/lang/invoke/MethodHandle" ∧ yX5_remember.cls ≠ "java/lang/invoke/VarHandle" ∧ (parseMethodDescriptor yX5_remember.desc).map (fun d => d.parameters.length) = some 0 := by decide +kernel
theorem mi_X5_remember : Cond.instanceMethod yX5_remember ∈ lw_tg ∧ Cond.selects RX5 yX5_remember yX5_remember ∈ lw_tg ∧ Cond.initialized RX5 ∈ lw_tg ∧ Cond.code yX5_remember cX5_remember 1 none ∈ lw_tg := ⟨(tg_at 498 (by decide +kernel) rfl), (tg_at 499 (by decide +kernel) rfl), (tg_at 63 (by decide +kernel) rfl), (tg_at 500 (by decide +kernel) rfl)⟩
theorem hd_X0_ease : yX0_ease.cls = RX0 ∧ yX0_ease.cls ≠ "java/lang/invoke/MethodHandle" ∧ yX0_ease.cls ≠ "java/lang/invoke/VarHandle" ∧ (parseMethodDescriptor yX0_ease.desc).map (fun d => d.parameters.length) = some 1 := by decide +kernel
theorem mi_X0_ease : Cond.instanceMethod yX0_ease ∈ lw_tg ∧ Cond.selects RX0 yX0_ease yX0_ease ∈ lw_tg ∧ Cond.initialized RX0 ∈ lw_tg ∧ Cond.code yX0_ease cX0_ease 3 none ∈ lw_tg := ⟨(tg_at 529 (by decide +kernel) rfl), (tg_at 530 (by decide +kernel) rfl), (tg_at 64 (by decide +kernel) rfl), (tg_at 531 (by decide +kernel) rfl)⟩
theorem hd_X5_takeBack : yX5_takeBack.cls = RX5 ∧ yX5_takeBack.cls ≠ "java/lang/invoke/MethodHandle" ∧ yX5_takeBack.cls ≠ "java/lang/invoke/VarHandle" ∧ (parseMethodDescriptor yX5_takeBack.desc).map (fun d => d.parameters.length) = some 0 := by decide +kernel
theorem mi_X5_takeBack : Cond.instanceMethod yX5_takeBack ∈ lw_tg ∧ Cond.selects RX5 yX5_takeBack yX5_takeBack ∈ lw_tg ∧ Cond.initialized RX5 ∈ lw_tg ∧ Cond.code yX5_takeBack cX5_takeBack 1 none ∈ lw_tg := ⟨(tg_at 537 (by decide +kernel) rfl), (tg_at 538 (by decide +kernel) rfl), (tg_at 63 (by decide +kernel) rfl), (tg_at 539 (by decide +kernel) rfl)⟩
theorem hd_X0_wornBits : yX0_wornBits.cls = RX0 ∧ yX0_wornBits.cls ≠ "java/lang/invoke/MethodHandle" ∧ yX0_wornBits.cls ≠ "java/lang/invoke/VarHandle" ∧ (parseMethodDescriptor yX0_wornBits.desc).map (fun d => d.parameters.length) = some 1 := by decide +kernel
theorem mi_X0_wornBits : Cond.instanceMethod yX0_wornBits ∈ lw_tg ∧ Cond.selects RX0 yX0_wornBits yX0_wornBits ∈ lw_tg ∧ Cond.initialized RX0 ∈ lw_tg ∧ Cond.code yX0_wornBits cX0_wornBits 4 (some .int) ∈ lw_tg := ⟨(tg_at 545 (by decide +kernel) rfl), (tg_at 546 (by decide +kernel) rfl), (tg_at 64 (by decide +kernel) rfl), (tg_at 547 (by decide +kernel) rfl)⟩
theorem hd_X4_isFree : yX4_isFree.cls = RX4 ∧ yX4_isFree.cls ≠ "java/lang/invoke/MethodHandle" ∧ yX4_isFree.cls ≠ "java/lang/invoke/VarHandle" ∧ (parseMethodDescriptor yX4_isFree.desc).map (fun d => d.parameters.length) = some 1 := by decide +kernel
theorem mi_X4_isFree : Cond.instanceMethod yX4_isFree ∈ lw_tg ∧ Cond.selects RX4 yX4_isFree yX4_isFree ∈ lw_tg ∧ Cond.initialized RX4 ∈ lw_tg ∧ Cond.code yX4_isFree cX4_isFree 2 (some .boolean) ∈ lw_tg := ⟨(tg_at 550 (by decide +kernel) rfl), (tg_at 551 (by decide +kernel) rfl), (tg_at 62 (by decide +kernel) rfl), (tg_at 552 (by decide +kernel) rfl)⟩
theorem hd_X4_furlongs : yX4_furlongs.cls = RX4 ∧ yX4_furlongs.cls ≠ "java/lang/invoke/MethodHandle" ∧ yX4_furlongs.cls ≠ "java/lang/invoke/VarHandle" ∧ (parseMethodDescriptor yX4_furlongs.desc).map (fun d => d.parameters.length) = some 2 := by decide +kernel
theorem mi_X4_furlongs : Cond.instanceMethod yX4_furlongs ∈ lw_tg ∧ Cond.selects RX4 yX4_furlongs yX4_furlongs ∈ lw_tg ∧ Cond.initialized RX4 ∈ lw_tg ∧ Cond.code yX4_furlongs cX4_furlongs 5 (some .int) ∈ lw_tg := ⟨(tg_at 554 (by decide +kernel) rfl), (tg_at 555 (by decide +kernel) rfl), (tg_at 62 (by decide +kernel) rfl), (tg_at 556 (by decide +kernel) rfl)⟩
theorem hd_X6_planned : yX6_planned.cls = RX6 ∧ yX6_planned.cls ≠ "java/lang/invoke/MethodHandle" ∧ yX6_planned.cls ≠ "java/lang/invoke/VarHandle" ∧ (parseMethodDescriptor yX6_planned.desc).map (fun d => d.parameters.length) = some 2 := by decide +kernel
theorem mi_X6_planned : Cond.instanceMethod yX6_planned ∈ lw_tg ∧ Cond.selects RX6 yX6_planned yX6_planned ∈ lw_tg ∧ Cond.initialized RX6 ∈ lw_tg ∧ Cond.code yX6_planned cX6_planned 3 (some .int) ∈ lw_tg := ⟨(tg_at 563 (by decide +kernel) rfl), (tg_at 10 (by decide +kernel) rfl), (tg_at 60 (by decide +kernel) rfl), (tg_at 564 (by decide +kernel) rfl)⟩
theorem hd_X1_plan : yX1_plan.cls = RX1 ∧ yX1_plan.cls ≠ "java/lang/invoke/MethodHandle" ∧ yX1_plan.cls ≠ "java/lang/invoke/VarHandle" ∧ (parseMethodDescriptor yX1_plan.desc).map (fun d => d.parameters.length) = some 2 := by decide +kernel
theorem mi_X1_plan : Cond.instanceMethod yX1_plan ∈ lw_tg ∧ Cond.selects RX1 yX1_plan yX1_plan ∈ lw_tg ∧ Cond.initialized RX1 ∈ lw_tg ∧ Cond.code yX1_plan cX1_plan 4 none ∈ lw_tg := ⟨(tg_at 566 (by decide +kernel) rfl), (tg_at 567 (by decide +kernel) rfl), (tg_at 66 (by decide +kernel) rfl), (tg_at 568 (by decide +kernel) rfl)⟩
theorem hd_X6_minutesWithHired : yX6_minutesWithHired.cls = RX6 ∧ yX6_minutesWithHired.cls ≠ "java/lang/invoke/MethodHandle" ∧ yX6_minutesWithHired.cls ≠ "java/lang/invoke/VarHandle" ∧ (parseMethodDescriptor yX6_minutesWithHired.desc).map (fun d => d.parameters.length) = some 2 := by decide +kernel
theorem mi_X6_minutesWithHired : Cond.instanceMethod yX6_minutesWithHired ∈ lw_tg ∧ Cond.selects RX6 yX6_minutesWithHired yX6_minutesWithHired ∈ lw_tg ∧ Cond.initialized RX6 ∈ lw_tg ∧ Cond.code yX6_minutesWithHired cX6_minutesWithHired 5 (some .int) ∈ lw_tg := ⟨(tg_at 595 (by decide +kernel) rfl), (tg_at 14 (by decide +kernel) rfl), (tg_at 60 (by decide +kernel) rfl), (tg_at 596 (by decide +kernel) rfl)⟩
theorem hd_X4_furlongsOf : yX4_furlongsOf.cls = RX4 ∧ yX4_furlongsOf.cls ≠ "java/lang/invoke/MethodHandle" ∧ yX4_furlongsOf.cls ≠ "java/lang/invoke/VarHandle" ∧ (parseMethodDescriptor yX4_furlongsOf.desc).map (fun d => d.parameters.length) = some 1 := by decide +kernel
theorem mi_X4_furlongsOf : Cond.instanceMethod yX4_furlongsOf ∈ lw_tg ∧ Cond.selects RX4 yX4_furlongsOf yX4_furlongsOf ∈ lw_tg ∧ Cond.initialized RX4 ∈ lw_tg ∧ Cond.code yX4_furlongsOf cX4_furlongsOf 4 (some .int) ∈ lw_tg := ⟨(tg_at 599 (by decide +kernel) rfl), (tg_at 600 (by decide +kernel) rfl), (tg_at 62 (by decide +kernel) rfl), (tg_at 601 (by decide +kernel) rfl)⟩
theorem hd_X6_minutesThrough : yX6_minutesThrough.cls = RX6 ∧ yX6_minutesThrough.cls ≠ "java/lang/invoke/MethodHandle" ∧ yX6_minutesThrough.cls ≠ "java/lang/invoke/VarHandle" ∧ (parseMethodDescriptor yX6_minutesThrough.desc).map (fun d => d.parameters.length) = some 1 := by decide +kernel
theorem mi_X6_minutesThrough : Cond.instanceMethod yX6_minutesThrough ∈ lw_tg ∧ Cond.selects RX6 yX6_minutesThrough yX6_minutesThrough ∈ lw_tg ∧ Cond.initialized RX6 ∈ lw_tg ∧ Cond.code yX6_minutesThrough cX6_minutesThrough 3 (some .int) ∈ lw_tg := ⟨(tg_at 608 (by decide +kernel) rfl), (tg_at 15 (by decide +kernel) rfl), (tg_at 60 (by decide +kernel) rfl), (tg_at 609 (by decide +kernel) rfl)⟩
theorem hd_X4_freeMinutesLeft : yX4_freeMinutesLeft.cls = RX4 ∧ yX4_freeMinutesLeft.cls ≠ "java/lang/invoke/MethodHandle" ∧ yX4_freeMinutesLeft.cls ≠ "java/lang/invoke/VarHandle" ∧ (parseMethodDescriptor yX4_freeMinutesLeft.desc).map (fun d => d.parameters.length) = some 1 := by decide +kernel
theorem mi_X4_freeMinutesLeft : Cond.instanceMethod yX4_freeMinutesLeft ∈ lw_tg ∧ Cond.selects RX4 yX4_freeMinutesLeft yX4_freeMinutesLeft ∈ lw_tg ∧ Cond.initialized RX4 ∈ lw_tg ∧ Cond.code yX4_freeMinutesLeft cX4_freeMinutesLeft 2 (some .int) ∈ lw_tg := ⟨(tg_at 611 (by decide +kernel) rfl), (tg_at 612 (by decide +kernel) rfl), (tg_at 62 (by decide +kernel) rfl), (tg_at 613 (by decide +kernel) rfl)⟩
theorem hd_X6_meetingStretch : yX6_meetingStretch.cls = RX6 ∧ yX6_meetingStretch.cls ≠ "java/lang/invoke/MethodHandle" ∧ yX6_meetingStretch.cls ≠ "java/lang/invoke/VarHandle" ∧ (parseMethodDescriptor yX6_meetingStretch.desc).map (fun d => d.parameters.length) = some 3 := by decide +kernel
theorem mi_X6_meetingStretch : Cond.instanceMethod yX6_meetingStretch ∈ lw_tg ∧ Cond.selects RX6 yX6_meetingStretch yX6_meetingStretch ∈ lw_tg ∧ Cond.initialized RX6 ∈ lw_tg ∧ Cond.code yX6_meetingStretch cX6_meetingStretch 9 (some .int) ∈ lw_tg := ⟨(tg_at 620 (by decide +kernel) rfl), (tg_at 16 (by decide +kernel) rfl), (tg_at 60 (by decide +kernel) rfl), (tg_at 621 (by decide +kernel) rfl)⟩
theorem hd_X4_slimyFrom : yX4_slimyFrom.cls = RX4 ∧ yX4_slimyFrom.cls ≠ "java/lang/invoke/MethodHandle" ∧ yX4_slimyFrom.cls ≠ "java/lang/invoke/VarHandle" ∧ (parseMethodDescriptor yX4_slimyFrom.desc).map (fun d => d.parameters.length) = some 1 := by decide +kernel
theorem mi_X4_slimyFrom : Cond.instanceMethod yX4_slimyFrom ∈ lw_tg ∧ Cond.selects RX4 yX4_slimyFrom yX4_slimyFrom ∈ lw_tg ∧ Cond.initialized RX4 ∈ lw_tg ∧ Cond.code yX4_slimyFrom cX4_slimyFrom 4 (some .int) ∈ lw_tg := ⟨(tg_at 627 (by decide +kernel) rfl), (tg_at 628 (by decide +kernel) rfl), (tg_at 62 (by decide +kernel) rfl), (tg_at 629 (by decide +kernel) rfl)⟩
theorem hd_X6_commonDivisor : yX6_commonDivisor.cls ≠ "java/lang/invoke/MethodHandle" ∧ yX6_commonDivisor.cls ≠ "java/lang/invoke/VarHandle" ∧ (parseMethodDescriptor yX6_commonDivisor.desc).map (fun d => d.parameters.length) = some 2 := by decide +kernel
theorem mi_X6_commonDivisor : Cond.static yX6_commonDivisor ∈ lw_tg ∧ Cond.initialized yX6_commonDivisor.cls ∈ lw_tg ∧ Cond.code yX6_commonDivisor cX6_commonDivisor 6 (some .int) ∈ lw_tg := ⟨(tg_at 634 (by decide +kernel) rfl), (tg_at 60 (by decide +kernel) rfl), (tg_at 635 (by decide +kernel) rfl)⟩
theorem hd_X3_add : yX3_add.cls = RX3 ∧ yX3_add.cls ≠ "java/lang/invoke/MethodHandle" ∧ yX3_add.cls ≠ "java/lang/invoke/VarHandle" ∧ (parseMethodDescriptor yX3_add.desc).map (fun d => d.parameters.length) = some 2 := by decide +kernel
theorem mi_X3_add : Cond.instanceMethod yX3_add ∈ lw_tg ∧ Cond.selects RX3 yX3_add yX3_add ∈ lw_tg ∧ Cond.initialized RX3 ∈ lw_tg ∧ Cond.code yX3_add cX3_add 3 none ∈ lw_tg := ⟨(tg_at 642 (by decide +kernel) rfl), (tg_at 643 (by decide +kernel) rfl), (tg_at 65 (by decide +kernel) rfl), (tg_at 644 (by decide +kernel) rfl)⟩
theorem hd_X3_look : yX3_look.cls = RX3 ∧ yX3_look.cls ≠ "java/lang/invoke/MethodHandle" ∧ yX3_look.cls ≠ "java/lang/invoke/VarHandle" ∧ (parseMethodDescriptor yX3_look.desc).map (fun d => d.parameters.length) = some 1 := by decide +kernel
theorem mi_X3_look : Cond.instanceMethod yX3_look ∈ lw_tg ∧ Cond.selects RX3 yX3_look yX3_look ∈ lw_tg ∧ Cond.initialized RX3 ∈ lw_tg ∧ Cond.code yX3_look cX3_look 3 none ∈ lw_tg := ⟨(tg_at 654 (by decide +kernel) rfl), (tg_at 655 (by decide +kernel) rfl), (tg_at 65 (by decide +kernel) rfl), (tg_at 656 (by decide +kernel) rfl)⟩
theorem hd_X6_asStep : yX6_asStep.cls = RX6 ∧ yX6_asStep.cls ≠ "java/lang/invoke/MethodHandle" ∧ yX6_asStep.cls ≠ "java/lang/invoke/VarHandle" ∧ (parseMethodDescriptor yX6_asStep.desc).map (fun d => d.parameters.length) = some 1 := by decide +kernel
theorem mi_X6_asStep : Cond.instanceMethod yX6_asStep ∈ lw_tg ∧ Cond.selects RX6 yX6_asStep yX6_asStep ∈ lw_tg ∧ Cond.initialized RX6 ∈ lw_tg ∧ Cond.code yX6_asStep cX6_asStep 2 (some .int) ∈ lw_tg := ⟨(tg_at 693 (by decide +kernel) rfl), (tg_at 21 (by decide +kernel) rfl), (tg_at 60 (by decide +kernel) rfl), (tg_at 694 (by decide +kernel) rfl)⟩
theorem hd_X6_asFirm : yX6_asFirm.cls = RX6 ∧ yX6_asFirm.cls ≠ "java/lang/invoke/MethodHandle" ∧ yX6_asFirm.cls ≠ "java/lang/invoke/VarHandle" ∧ (parseMethodDescriptor yX6_asFirm.desc).map (fun d => d.parameters.length) = some 1 := by decide +kernel
theorem mi_X6_asFirm : Cond.instanceMethod yX6_asFirm ∈ lw_tg ∧ Cond.selects RX6 yX6_asFirm yX6_asFirm ∈ lw_tg ∧ Cond.initialized RX6 ∈ lw_tg ∧ Cond.code yX6_asFirm cX6_asFirm 2 (some .int) ∈ lw_tg := ⟨(tg_at 697 (by decide +kernel) rfl), (tg_at 22 (by decide +kernel) rfl), (tg_at 60 (by decide +kernel) rfl), (tg_at 698 (by decide +kernel) rfl)⟩
theorem hd_X6_asSlimy : yX6_asSlimy.cls = RX6 ∧ yX6_asSlimy.cls ≠ "java/lang/invoke/MethodHandle" ∧ yX6_asSlimy.cls ≠ "java/lang/invoke/VarHandle" ∧ (parseMethodDescriptor yX6_asSlimy.desc).map (fun d => d.parameters.length) = some 1 := by decide +kernel
theorem mi_X6_asSlimy : Cond.instanceMethod yX6_asSlimy ∈ lw_tg ∧ Cond.selects RX6 yX6_asSlimy yX6_asSlimy ∈ lw_tg ∧ Cond.initialized RX6 ∈ lw_tg ∧ Cond.code yX6_asSlimy cX6_asSlimy 2 (some .int) ∈ lw_tg := ⟨(tg_at 702 (by decide +kernel) rfl), (tg_at 23 (by decide +kernel) rfl), (tg_at 60 (by decide +kernel) rfl), (tg_at 703 (by decide +kernel) rfl)⟩
theorem hd_X6_asStretched : yX6_asStretched.cls = RX6 ∧ yX6_asStretched.cls ≠ "java/lang/invoke/MethodHandle" ∧ yX6_asStretched.cls ≠ "java/lang/invoke/VarHandle" ∧ (parseMethodDescriptor yX6_asStretched.desc).map (fun d => d.parameters.length) = some 1 := by decide +kernel
theorem mi_X6_asStretched : Cond.instanceMethod yX6_asStretched ∈ lw_tg ∧ Cond.selects RX6 yX6_asStretched yX6_asStretched ∈ lw_tg ∧ Cond.initialized RX6 ∈ lw_tg ∧ Cond.code yX6_asStretched cX6_asStretched 2 (some .int) ∈ lw_tg := ⟨(tg_at 711 (by decide +kernel) rfl), (tg_at 24 (by decide +kernel) rfl), (tg_at 60 (by decide +kernel) rfl), (tg_at 712 (by decide +kernel) rfl)⟩
theorem hd_X6_asCramped : yX6_asCramped.cls = RX6 ∧ yX6_asCramped.cls ≠ "java/lang/invoke/MethodHandle" ∧ yX6_asCramped.cls ≠ "java/lang/invoke/VarHandle" ∧ (parseMethodDescriptor yX6_asCramped.desc).map (fun d => d.parameters.length) = some 1 := by decide +kernel
theorem mi_X6_asCramped : Cond.instanceMethod yX6_asCramped ∈ lw_tg ∧ Cond.selects RX6 yX6_asCramped yX6_asCramped ∈ lw_tg ∧ Cond.initialized RX6 ∈ lw_tg ∧ Cond.code yX6_asCramped cX6_asCramped 2 (some .int) ∈ lw_tg := ⟨(tg_at 716 (by decide +kernel) rfl), (tg_at 25 (by decide +kernel) rfl), (tg_at 60 (by decide +kernel) rfl), (tg_at 717 (by decide +kernel) rfl)⟩
theorem hd_X6_asBlind : yX6_asBlind.cls = RX6 ∧ yX6_asBlind.cls ≠ "java/lang/invoke/MethodHandle" ∧ yX6_asBlind.cls ≠ "java/lang/invoke/VarHandle" ∧ (parseMethodDescriptor yX6_asBlind.desc).map (fun d => d.parameters.length) = some 1 := by decide +kernel
theorem mi_X6_asBlind : Cond.instanceMethod yX6_asBlind ∈ lw_tg ∧ Cond.selects RX6 yX6_asBlind yX6_asBlind ∈ lw_tg ∧ Cond.initialized RX6 ∈ lw_tg ∧ Cond.code yX6_asBlind cX6_asBlind 2 (some .int) ∈ lw_tg := ⟨(tg_at 725 (by decide +kernel) rfl), (tg_at 26 (by decide +kernel) rfl), (tg_at 60 (by decide +kernel) rfl), (tg_at 726 (by decide +kernel) rfl)⟩
theorem hd_X0_tiredTogether : yX0_tiredTogether.cls = RX0 ∧ yX0_tiredTogether.cls ≠ "java/lang/invoke/MethodHandle" ∧ yX0_tiredTogether.cls ≠ "java/lang/invoke/VarHandle" ∧ (parseMethodDescriptor yX0_tiredTogether.desc).map (fun d => d.parameters.length) = some 0 := by decide +kernel
theorem mi_X0_tiredTogether : Cond.instanceMethod yX0_tiredTogether ∈ lw_tg ∧ Cond.selects RX0 yX0_tiredTogether yX0_tiredTogether ∈ lw_tg ∧ Cond.initialized RX0 ∈ lw_tg ∧ Cond.code yX0_tiredTogether cX0_tiredTogether 3 (some .int) ∈ lw_tg := ⟨(tg_at 706 (by decide +kernel) rfl), (tg_at 707 (by decide +kernel) rfl), (tg_at 64 (by decide +kernel) rfl), (tg_at 708 (by decide +kernel) rfl)⟩
theorem hd_X4_shafts : yX4_shafts.cls = RX4 ∧ yX4_shafts.cls ≠ "java/lang/invoke/MethodHandle" ∧ yX4_shafts.cls ≠ "java/lang/invoke/VarHandle" ∧ (parseMethodDescriptor yX4_shafts.desc).map (fun d => d.parameters.length) = some 0 := by decide +kernel
theorem mi_X4_shafts : Cond.instanceMethod yX4_shafts ∈ lw_tg ∧ Cond.selects RX4 yX4_shafts yX4_shafts ∈ lw_tg ∧ Cond.initialized RX4 ∈ lw_tg ∧ Cond.code yX4_shafts cX4_shafts 3 (some .int) ∈ lw_tg := ⟨(tg_at 720 (by decide +kernel) rfl), (tg_at 721 (by decide +kernel) rfl), (tg_at 62 (by decide +kernel) rfl), (tg_at 722 (by decide +kernel) rfl)⟩
theorem hd_X5_copy : yX5_copy.cls = RX5 ∧ yX5_copy.cls ≠ "java/lang/invoke/MethodHandle" ∧ yX5_copy.cls ≠ "java/lang/invoke/VarHandle" ∧ (parseMethodDescriptor yX5_copy.desc).map (fun d => d.parameters.length) = some 1 := by decide +kernel
theorem mi_X5_copy : Cond.instanceMethod yX5_copy ∈ lw_tg ∧ Cond.selects RX5 yX5_copy yX5_copy ∈ lw_tg ∧ Cond.initialized RX5 ∈ lw_tg ∧ Cond.code yX5_copy cX5_copy 3 none ∈ lw_tg := ⟨(tg_at 733 (by decide +kernel) rfl), (tg_at 734 (by decide +kernel) rfl), (tg_at 63 (by decide +kernel) rfl), (tg_at 735 (by decide +kernel) rfl)⟩
theorem hd_X7_begins : yX7_begins.cls = RX7 ∧ yX7_begins.cls ≠ "java/lang/invoke/MethodHandle" ∧ yX7_begins.cls ≠ "java/lang/invoke/VarHandle" ∧ (parseMethodDescriptor yX7_begins.desc).map (fun d => d.parameters.length) = some 0 := by decide +kernel
theorem mi_X7_begins : Cond.instanceMethod yX7_begins ∈ lw_tg ∧ Cond.selects RX7 yX7_begins yX7_begins ∈ lw_tg ∧ Cond.initialized RX7 ∈ lw_tg ∧ Cond.code yX7_begins cX7_begins 2 none ∈ lw_tg := ⟨(tg_at 756 (by decide +kernel) rfl), (tg_at 27 (by decide +kernel) rfl), (tg_at 67 (by decide +kernel) rfl), (tg_at 757 (by decide +kernel) rfl)⟩
theorem hd_X7_in : yX7_in.cls ≠ "java/lang/invoke/MethodHandle" ∧ yX7_in.cls ≠ "java/lang/invoke/VarHandle" ∧ (parseMethodDescriptor yX7_in.desc).map (fun d => d.parameters.length) = some 3 := by decide +kernel
theorem mi_X7_in : Cond.static yX7_in ∈ lw_tg ∧ Cond.initialized yX7_in.cls ∈ lw_tg ∧ Cond.code yX7_in cX7_in 3 (some .boolean) ∈ lw_tg := ⟨(tg_at 866 (by decide +kernel) rfl), (tg_at 67 (by decide +kernel) rfl), (tg_at 867 (by decide +kernel) rfl)⟩
theorem hd_X7_isWalker : yX7_isWalker.cls = RX7 ∧ yX7_isWalker.cls ≠ "java/lang/invoke/MethodHandle" ∧ yX7_isWalker.cls ≠ "java/lang/invoke/VarHandle" ∧ (parseMethodDescriptor yX7_isWalker.desc).map (fun d => d.parameters.length) = some 1 := by decide +kernel
theorem mi_X7_isWalker : Cond.instanceMethod yX7_isWalker ∈ lw_tg ∧ Cond.selects RX7 yX7_isWalker yX7_isWalker ∈ lw_tg ∧ Cond.initialized RX7 ∈ lw_tg ∧ Cond.code yX7_isWalker cX7_isWalker 2 (some .boolean) ∈ lw_tg := ⟨(tg_at 912 (by decide +kernel) rfl), (tg_at 34 (by decide +kernel) rfl), (tg_at 67 (by decide +kernel) rfl), (tg_at 913 (by decide +kernel) rfl)⟩
theorem hd_X7_byteAt : yX7_byteAt.cls = RX7 ∧ yX7_byteAt.cls ≠ "java/lang/invoke/MethodHandle" ∧ yX7_byteAt.cls ≠ "java/lang/invoke/VarHandle" ∧ (parseMethodDescriptor yX7_byteAt.desc).map (fun d => d.parameters.length) = some 1 := by decide +kernel
theorem mi_X7_byteAt : Cond.instanceMethod yX7_byteAt ∈ lw_tg ∧ Cond.selects RX7 yX7_byteAt yX7_byteAt ∈ lw_tg ∧ Cond.initialized RX7 ∈ lw_tg ∧ Cond.code yX7_byteAt cX7_byteAt 2 (some .int) ∈ lw_tg := ⟨(tg_at 882 (by decide +kernel) rfl), (tg_at 29 (by decide +kernel) rfl), (tg_at 67 (by decide +kernel) rfl), (tg_at 883 (by decide +kernel) rfl)⟩
theorem hd_X7_isSmall : yX7_isSmall.cls ≠ "java/lang/invoke/MethodHandle" ∧ yX7_isSmall.cls ≠ "java/lang/invoke/VarHandle" ∧ (parseMethodDescriptor yX7_isSmall.desc).map (fun d => d.parameters.length) = some 1 := by decide +kernel
theorem mi_X7_isSmall : Cond.static yX7_isSmall ∈ lw_tg ∧ Cond.initialized yX7_isSmall.cls ∈ lw_tg ∧ Cond.code yX7_isSmall cX7_isSmall 1 (some .boolean) ∈ lw_tg := ⟨(tg_at 885 (by decide +kernel) rfl), (tg_at 67 (by decide +kernel) rfl), (tg_at 886 (by decide +kernel) rfl)⟩
theorem hd_X7_isFigure : yX7_isFigure.cls ≠ "java/lang/invoke/MethodHandle" ∧ yX7_isFigure.cls ≠ "java/lang/invoke/VarHandle" ∧ (parseMethodDescriptor yX7_isFigure.desc).map (fun d => d.parameters.length) = some 1 := by decide +kernel
theorem mi_X7_isFigure : Cond.static yX7_isFigure ∈ lw_tg ∧ Cond.initialized yX7_isFigure.cls ∈ lw_tg ∧ Cond.code yX7_isFigure cX7_isFigure 1 (some .boolean) ∈ lw_tg := ⟨(tg_at 888 (by decide +kernel) rfl), (tg_at 67 (by decide +kernel) rfl), (tg_at 889 (by decide +kernel) rfl)⟩
theorem hd_X7_next : yX7_next.cls = RX7 ∧ yX7_next.cls ≠ "java/lang/invoke/MethodHandle" ∧ yX7_next.cls ≠ "java/lang/invoke/VarHandle" ∧ (parseMethodDescriptor yX7_next.desc).map (fun d => d.parameters.length) = some 0 := by decide +kernel
theorem mi_X7_next : Cond.instanceMethod yX7_next ∈ lw_tg ∧ Cond.selects RX7 yX7_next yX7_next ∈ lw_tg ∧ Cond.initialized RX7 ∈ lw_tg ∧ Cond.code yX7_next cX7_next 2 none ∈ lw_tg := ⟨(tg_at 878 (by decide +kernel) rfl), (tg_at 28 (by decide +kernel) rfl), (tg_at 67 (by decide +kernel) rfl), (tg_at 879 (by decide +kernel) rfl)⟩
theorem hd_X7_reads : yX7_reads.cls = RX7 ∧ yX7_reads.cls ≠ "java/lang/invoke/MethodHandle" ∧ yX7_reads.cls ≠ "java/lang/invoke/VarHandle" ∧ (parseMethodDescriptor yX7_reads.desc).map (fun d => d.parameters.length) = some 4 := by decide +kernel
theorem mi_X7_reads : Cond.instanceMethod yX7_reads ∈ lw_tg ∧ Cond.selects RX7 yX7_reads yX7_reads ∈ lw_tg ∧ Cond.initialized RX7 ∈ lw_tg ∧ Cond.code yX7_reads cX7_reads 6 none ∈ lw_tg := ⟨(tg_at 900 (by decide +kernel) rfl), (tg_at 32 (by decide +kernel) rfl), (tg_at 67 (by decide +kernel) rfl), (tg_at 901 (by decide +kernel) rfl)⟩
theorem hd_X7_readWalker : yX7_readWalker.cls = RX7 ∧ yX7_readWalker.cls ≠ "java/lang/invoke/MethodHandle" ∧ yX7_readWalker.cls ≠ "java/lang/invoke/VarHandle" ∧ (parseMethodDescriptor yX7_readWalker.desc).map (fun d => d.parameters.length) = some 0 := by decide +kernel
theorem mi_X7_readWalker : Cond.instanceMethod yX7_readWalker ∈ lw_tg ∧ Cond.selects RX7 yX7_readWalker yX7_readWalker ∈ lw_tg ∧ Cond.initialized RX7 ∈ lw_tg ∧ Cond.code yX7_readWalker cX7_readWalker 2 none ∈ lw_tg := ⟨(tg_at 896 (by decide +kernel) rfl), (tg_at 31 (by decide +kernel) rfl), (tg_at 67 (by decide +kernel) rfl), (tg_at 897 (by decide +kernel) rfl)⟩
theorem hd_X7_readStretch : yX7_readStretch.cls = RX7 ∧ yX7_readStretch.cls ≠ "java/lang/invoke/MethodHandle" ∧ yX7_readStretch.cls ≠ "java/lang/invoke/VarHandle" ∧ (parseMethodDescriptor yX7_readStretch.desc).map (fun d => d.parameters.length) = some 0 := by decide +kernel
theorem mi_X7_readStretch : Cond.instanceMethod yX7_readStretch ∈ lw_tg ∧ Cond.selects RX7 yX7_readStretch yX7_readStretch ∈ lw_tg ∧ Cond.initialized RX7 ∈ lw_tg ∧ Cond.code yX7_readStretch cX7_readStretch 2 none ∈ lw_tg := ⟨(tg_at 904 (by decide +kernel) rfl), (tg_at 33 (by decide +kernel) rfl), (tg_at 67 (by decide +kernel) rfl), (tg_at 905 (by decide +kernel) rfl)⟩
theorem hd_X7_readItem : yX7_readItem.cls = RX7 ∧ yX7_readItem.cls ≠ "java/lang/invoke/MethodHandle" ∧ yX7_readItem.cls ≠ "java/lang/invoke/VarHandle" ∧ (parseMethodDescriptor yX7_readItem.desc).map (fun d => d.parameters.length) = some 0 := by decide +kernel
theorem mi_X7_readItem : Cond.instanceMethod yX7_readItem ∈ lw_tg ∧ Cond.selects RX7 yX7_readItem yX7_readItem ∈ lw_tg ∧ Cond.initialized RX7 ∈ lw_tg ∧ Cond.code yX7_readItem cX7_readItem 3 none ∈ lw_tg := ⟨(tg_at 892 (by decide +kernel) rfl), (tg_at 30 (by decide +kernel) rfl), (tg_at 67 (by decide +kernel) rfl), (tg_at 893 (by decide +kernel) rfl)⟩
theorem hd_X7_isWorn : yX7_isWorn.cls = RX7 ∧ yX7_isWorn.cls ≠ "java/lang/invoke/MethodHandle" ∧ yX7_isWorn.cls ≠ "java/lang/invoke/VarHandle" ∧ (parseMethodDescriptor yX7_isWorn.desc).map (fun d => d.parameters.length) = some 2 := by decide +kernel
theorem mi_X7_isWorn : Cond.instanceMethod yX7_isWorn ∈ lw_tg ∧ Cond.selects RX7 yX7_isWorn yX7_isWorn ∈ lw_tg ∧ Cond.initialized RX7 ∈ lw_tg ∧ Cond.code yX7_isWorn cX7_isWorn 3 (some .boolean) ∈ lw_tg := ⟨(tg_at 940 (by decide +kernel) rfl), (tg_at 39 (by decide +kernel) rfl), (tg_at 67 (by decide +kernel) rfl), (tg_at 941 (by decide +kernel) rfl)⟩
theorem hd_X7_takesAt : yX7_takesAt.cls = RX7 ∧ yX7_takesAt.cls ≠ "java/lang/invoke/MethodHandle" ∧ yX7_takesAt.cls ≠ "java/lang/invoke/VarHandle" ∧ (parseMethodDescriptor yX7_takesAt.desc).map (fun d => d.parameters.length) = some 3 := by decide +kernel
theorem mi_X7_takesAt : Cond.instanceMethod yX7_takesAt ∈ lw_tg ∧ Cond.selects RX7 yX7_takesAt yX7_takesAt ∈ lw_tg ∧ Cond.initialized RX7 ∈ lw_tg ∧ Cond.code yX7_takesAt cX7_takesAt 9 (some .int) ∈ lw_tg := ⟨(tg_at 936 (by decide +kernel) rfl), (tg_at 38 (by decide +kernel) rfl), (tg_at 67 (by decide +kernel) rfl), (tg_at 937 (by decide +kernel) rfl)⟩
theorem hd_X7_tires : yX7_tires.cls = RX7 ∧ yX7_tires.cls ≠ "java/lang/invoke/MethodHandle" ∧ yX7_tires.cls ≠ "java/lang/invoke/VarHandle" ∧ (parseMethodDescriptor yX7_tires.desc).map (fun d => d.parameters.length) = some 3 := by decide +kernel
theorem mi_X7_tires : Cond.instanceMethod yX7_tires ∈ lw_tg ∧ Cond.selects RX7 yX7_tires yX7_tires ∈ lw_tg ∧ Cond.initialized RX7 ∈ lw_tg ∧ Cond.code yX7_tires cX7_tires 7 none ∈ lw_tg := ⟨(tg_at 952 (by decide +kernel) rfl), (tg_at 41 (by decide +kernel) rfl), (tg_at 67 (by decide +kernel) rfl), (tg_at 953 (by decide +kernel) rfl)⟩
theorem hd_X7_fromNow : yX7_fromNow.cls = RX7 ∧ yX7_fromNow.cls ≠ "java/lang/invoke/MethodHandle" ∧ yX7_fromNow.cls ≠ "java/lang/invoke/VarHandle" ∧ (parseMethodDescriptor yX7_fromNow.desc).map (fun d => d.parameters.length) = some 0 := by decide +kernel
theorem mi_X7_fromNow : Cond.instanceMethod yX7_fromNow ∈ lw_tg ∧ Cond.selects RX7 yX7_fromNow yX7_fromNow ∈ lw_tg ∧ Cond.initialized RX7 ∈ lw_tg ∧ Cond.code yX7_fromNow cX7_fromNow 2 none ∈ lw_tg := ⟨(tg_at 932 (by decide +kernel) rfl), (tg_at 37 (by decide +kernel) rfl), (tg_at 67 (by decide +kernel) rfl), (tg_at 933 (by decide +kernel) rfl)⟩
theorem hd_X7_walksOn : yX7_walksOn.cls = RX7 ∧ yX7_walksOn.cls ≠ "java/lang/invoke/MethodHandle" ∧ yX7_walksOn.cls ≠ "java/lang/invoke/VarHandle" ∧ (parseMethodDescriptor yX7_walksOn.desc).map (fun d => d.parameters.length) = some 3 := by decide +kernel
theorem mi_X7_walksOn : Cond.instanceMethod yX7_walksOn ∈ lw_tg ∧ Cond.selects RX7 yX7_walksOn yX7_walksOn ∈ lw_tg ∧ Cond.initialized RX7 ∈ lw_tg ∧ Cond.code yX7_walksOn cX7_walksOn 5 none ∈ lw_tg := ⟨(tg_at 948 (by decide +kernel) rfl), (tg_at 40 (by decide +kernel) rfl), (tg_at 67 (by decide +kernel) rfl), (tg_at 949 (by decide +kernel) rfl)⟩
theorem hd_X7_isStretch : yX7_isStretch.cls = RX7 ∧ yX7_isStretch.cls ≠ "java/lang/invoke/MethodHandle" ∧ yX7_isStretch.cls ≠ "java/lang/invoke/VarHandle" ∧ (parseMethodDescriptor yX7_isStretch.desc).map (fun d => d.parameters.length) = some 1 := by decide +kernel
theorem mi_X7_isStretch : Cond.instanceMethod yX7_isStretch ∈ lw_tg ∧ Cond.selects RX7 yX7_isStretch yX7_isStretch ∈ lw_tg ∧ Cond.initialized RX7 ∈ lw_tg ∧ Cond.code yX7_isStretch cX7_isStretch 2 (some .boolean) ∈ lw_tg := ⟨(tg_at 920 (by decide +kernel) rfl), (tg_at 35 (by decide +kernel) rfl), (tg_at 67 (by decide +kernel) rfl), (tg_at 921 (by decide +kernel) rfl)⟩
theorem hd_X7_isPair : yX7_isPair.cls = RX7 ∧ yX7_isPair.cls ≠ "java/lang/invoke/MethodHandle" ∧ yX7_isPair.cls ≠ "java/lang/invoke/VarHandle" ∧ (parseMethodDescriptor yX7_isPair.desc).map (fun d => d.parameters.length) = some 1 := by decide +kernel
theorem mi_X7_isPair : Cond.instanceMethod yX7_isPair ∈ lw_tg ∧ Cond.selects RX7 yX7_isPair yX7_isPair ∈ lw_tg ∧ Cond.initialized RX7 ∈ lw_tg ∧ Cond.code yX7_isPair cX7_isPair 2 (some .boolean) ∈ lw_tg := ⟨(tg_at 928 (by decide +kernel) rfl), (tg_at 36 (by decide +kernel) rfl), (tg_at 67 (by decide +kernel) rfl), (tg_at 929 (by decide +kernel) rfl)⟩
theorem hd_X7_remembers : yX7_remembers.cls = RX7 ∧ yX7_remembers.cls ≠ "java/lang/invoke/MethodHandle" ∧ yX7_remembers.cls ≠ "java/lang/invoke/VarHandle" ∧ (parseMethodDescriptor yX7_remembers.desc).map (fun d => d.parameters.length) = some 0 := by decide +kernel
theorem mi_X7_remembers : Cond.instanceMethod yX7_remembers ∈ lw_tg ∧ Cond.selects RX7 yX7_remembers yX7_remembers ∈ lw_tg ∧ Cond.initialized RX7 ∈ lw_tg ∧ Cond.code yX7_remembers cX7_remembers 2 none ∈ lw_tg := ⟨(tg_at 960 (by decide +kernel) rfl), (tg_at 43 (by decide +kernel) rfl), (tg_at 67 (by decide +kernel) rfl), (tg_at 961 (by decide +kernel) rfl)⟩
theorem hd_X7_becomes : yX7_becomes.cls = RX7 ∧ yX7_becomes.cls ≠ "java/lang/invoke/MethodHandle" ∧ yX7_becomes.cls ≠ "java/lang/invoke/VarHandle" ∧ (parseMethodDescriptor yX7_becomes.desc).map (fun d => d.parameters.length) = some 3 := by decide +kernel
theorem mi_X7_becomes : Cond.instanceMethod yX7_becomes ∈ lw_tg ∧ Cond.selects RX7 yX7_becomes yX7_becomes ∈ lw_tg ∧ Cond.initialized RX7 ∈ lw_tg ∧ Cond.code yX7_becomes cX7_becomes 5 none ∈ lw_tg := ⟨(tg_at 956 (by decide +kernel) rfl), (tg_at 42 (by decide +kernel) rfl), (tg_at 67 (by decide +kernel) rfl), (tg_at 957 (by decide +kernel) rfl)⟩
theorem hd_X7_isFree : yX7_isFree.cls = RX7 ∧ yX7_isFree.cls ≠ "java/lang/invoke/MethodHandle" ∧ yX7_isFree.cls ≠ "java/lang/invoke/VarHandle" ∧ (parseMethodDescriptor yX7_isFree.desc).map (fun d => d.parameters.length) = some 1 := by decide +kernel
theorem mi_X7_isFree : Cond.instanceMethod yX7_isFree ∈ lw_tg ∧ Cond.selects RX7 yX7_isFree yX7_isFree ∈ lw_tg ∧ Cond.initialized RX7 ∈ lw_tg ∧ Cond.code yX7_isFree cX7_isFree 2 (some .boolean) ∈ lw_tg := ⟨(tg_at 980 (by decide +kernel) rfl), (tg_at 44 (by decide +kernel) rfl), (tg_at 67 (by decide +kernel) rfl), (tg_at 981 (by decide +kernel) rfl)⟩
theorem hd_X7_isAsSeen : yX7_isAsSeen.cls = RX7 ∧ yX7_isAsSeen.cls ≠ "java/lang/invoke/MethodHandle" ∧ yX7_isAsSeen.cls ≠ "java/lang/invoke/VarHandle" ∧ (parseMethodDescriptor yX7_isAsSeen.desc).map (fun d => d.parameters.length) = some 2 := by decide +kernel
theorem mi_X7_isAsSeen : Cond.instanceMethod yX7_isAsSeen ∈ lw_tg ∧ Cond.selects RX7 yX7_isAsSeen yX7_isAsSeen ∈ lw_tg ∧ Cond.initialized RX7 ∈ lw_tg ∧ Cond.code yX7_isAsSeen cX7_isAsSeen 5 (some .boolean) ∈ lw_tg := ⟨(tg_at 1008 (by decide +kernel) rfl), (tg_at 50 (by decide +kernel) rfl), (tg_at 67 (by decide +kernel) rfl), (tg_at 1009 (by decide +kernel) rfl)⟩
theorem hd_X7_finds : yX7_finds.cls = RX7 ∧ yX7_finds.cls ≠ "java/lang/invoke/MethodHandle" ∧ yX7_finds.cls ≠ "java/lang/invoke/VarHandle" ∧ (parseMethodDescriptor yX7_finds.desc).map (fun d => d.parameters.length) = some 2 := by decide +kernel
theorem mi_X7_finds : Cond.instanceMethod yX7_finds ∈ lw_tg ∧ Cond.selects RX7 yX7_finds yX7_finds ∈ lw_tg ∧ Cond.initialized RX7 ∈ lw_tg ∧ Cond.code yX7_finds cX7_finds 7 none ∈ lw_tg := ⟨(tg_at 996 (by decide +kernel) rfl), (tg_at 47 (by decide +kernel) rfl), (tg_at 67 (by decide +kernel) rfl), (tg_at 997 (by decide +kernel) rfl)⟩
theorem hd_X7_pairBy : yX7_pairBy.cls = RX7 ∧ yX7_pairBy.cls ≠ "java/lang/invoke/MethodHandle" ∧ yX7_pairBy.cls ≠ "java/lang/invoke/VarHandle" ∧ (parseMethodDescriptor yX7_pairBy.desc).map (fun d => d.parameters.length) = some 1 := by decide +kernel
theorem mi_X7_pairBy : Cond.instanceMethod yX7_pairBy ∈ lw_tg ∧ Cond.selects RX7 yX7_pairBy yX7_pairBy ∈ lw_tg ∧ Cond.initialized RX7 ∈ lw_tg ∧ Cond.code yX7_pairBy cX7_pairBy 5 (some .int) ∈ lw_tg := ⟨(tg_at 1000 (by decide +kernel) rfl), (tg_at 48 (by decide +kernel) rfl), (tg_at 67 (by decide +kernel) rfl), (tg_at 1001 (by decide +kernel) rfl)⟩
theorem hd_X7_goesDown : yX7_goesDown.cls = RX7 ∧ yX7_goesDown.cls ≠ "java/lang/invoke/MethodHandle" ∧ yX7_goesDown.cls ≠ "java/lang/invoke/VarHandle" ∧ (parseMethodDescriptor yX7_goesDown.desc).map (fun d => d.parameters.length) = some 4 := by decide +kernel
theorem mi_X7_goesDown : Cond.instanceMethod yX7_goesDown ∈ lw_tg ∧ Cond.selects RX7 yX7_goesDown yX7_goesDown ∈ lw_tg ∧ Cond.initialized RX7 ∈ lw_tg ∧ Cond.code yX7_goesDown cX7_goesDown 6 (some .boolean) ∈ lw_tg := ⟨(tg_at 1004 (by decide +kernel) rfl), (tg_at 49 (by decide +kernel) rfl), (tg_at 67 (by decide +kernel) rfl), (tg_at 1005 (by decide +kernel) rfl)⟩
theorem hd_X7_search : yX7_search.cls = RX7 ∧ yX7_search.cls ≠ "java/lang/invoke/MethodHandle" ∧ yX7_search.cls ≠ "java/lang/invoke/VarHandle" ∧ (parseMethodDescriptor yX7_search.desc).map (fun d => d.parameters.length) = some 2 := by decide +kernel
theorem mi_X7_search : Cond.instanceMethod yX7_search ∈ lw_tg ∧ Cond.selects RX7 yX7_search yX7_search ∈ lw_tg ∧ Cond.initialized RX7 ∈ lw_tg ∧ Cond.code yX7_search cX7_search 6 none ∈ lw_tg := ⟨(tg_at 992 (by decide +kernel) rfl), (tg_at 46 (by decide +kernel) rfl), (tg_at 67 (by decide +kernel) rfl), (tg_at 993 (by decide +kernel) rfl)⟩
theorem hd_X7_told : yX7_told.cls = RX7 ∧ yX7_told.cls ≠ "java/lang/invoke/MethodHandle" ∧ yX7_told.cls ≠ "java/lang/invoke/VarHandle" ∧ (parseMethodDescriptor yX7_told.desc).map (fun d => d.parameters.length) = some 2 := by decide +kernel
theorem mi_X7_told : Cond.instanceMethod yX7_told ∈ lw_tg ∧ Cond.selects RX7 yX7_told yX7_told ∈ lw_tg ∧ Cond.initialized RX7 ∈ lw_tg ∧ Cond.code yX7_told cX7_told 3 (some .int) ∈ lw_tg := ⟨(tg_at 988 (by decide +kernel) rfl), (tg_at 45 (by decide +kernel) rfl), (tg_at 67 (by decide +kernel) rfl), (tg_at 989 (by decide +kernel) rfl)⟩
theorem hd_X7_penceOf : yX7_penceOf.cls = RX7 ∧ yX7_penceOf.cls ≠ "java/lang/invoke/MethodHandle" ∧ yX7_penceOf.cls ≠ "java/lang/invoke/VarHandle" ∧ (parseMethodDescriptor yX7_penceOf.desc).map (fun d => d.parameters.length) = some 1 := by decide +kernel
theorem mi_X7_penceOf : Cond.instanceMethod yX7_penceOf ∈ lw_tg ∧ Cond.selects RX7 yX7_penceOf yX7_penceOf ∈ lw_tg ∧ Cond.initialized RX7 ∈ lw_tg ∧ Cond.code yX7_penceOf cX7_penceOf 4 (some .int) ∈ lw_tg := ⟨(tg_at 1020 (by decide +kernel) rfl), (tg_at 51 (by decide +kernel) rfl), (tg_at 67 (by decide +kernel) rfl), (tg_at 1021 (by decide +kernel) rfl)⟩
theorem hd_X7_minutesBy : yX7_minutesBy.cls = RX7 ∧ yX7_minutesBy.cls ≠ "java/lang/invoke/MethodHandle" ∧ yX7_minutesBy.cls ≠ "java/lang/invoke/VarHandle" ∧ (parseMethodDescriptor yX7_minutesBy.desc).map (fun d => d.parameters.length) = some 2 := by decide +kernel
theorem mi_X7_minutesBy : Cond.instanceMethod yX7_minutesBy ∈ lw_tg ∧ Cond.selects RX7 yX7_minutesBy yX7_minutesBy ∈ lw_tg ∧ Cond.initialized RX7 ∈ lw_tg ∧ Cond.code yX7_minutesBy cX7_minutesBy 6 (some .int) ∈ lw_tg := ⟨(tg_at 1027 (by decide +kernel) rfl), (tg_at 52 (by decide +kernel) rfl), (tg_at 67 (by decide +kernel) rfl), (tg_at 1028 (by decide +kernel) rfl)⟩
theorem hd_X7_has : yX7_has.cls ≠ "java/lang/invoke/MethodHandle" ∧ yX7_has.cls ≠ "java/lang/invoke/VarHandle" ∧ (parseMethodDescriptor yX7_has.desc).map (fun d => d.parameters.length) = some 2 := by decide +kernel
theorem mi_X7_has : Cond.static yX7_has ∈ lw_tg ∧ Cond.initialized yX7_has.cls ∈ lw_tg ∧ Cond.code yX7_has cX7_has 2 (some .boolean) ∈ lw_tg := ⟨(tg_at 1023 (by decide +kernel) rfl), (tg_at 67 (by decide +kernel) rfl), (tg_at 1024 (by decide +kernel) rfl)⟩
theorem hd_X7_walksAll : yX7_walksAll.cls = RX7 ∧ yX7_walksAll.cls ≠ "java/lang/invoke/MethodHandle" ∧ yX7_walksAll.cls ≠ "java/lang/invoke/VarHandle" ∧ (parseMethodDescriptor yX7_walksAll.desc).map (fun d => d.parameters.length) = some 1 := by decide +kernel
theorem mi_X7_walksAll : Cond.instanceMethod yX7_walksAll ∈ lw_tg ∧ Cond.selects RX7 yX7_walksAll yX7_walksAll ∈ lw_tg ∧ Cond.initialized RX7 ∈ lw_tg ∧ Cond.code yX7_walksAll cX7_walksAll 3 (some .int) ∈ lw_tg := ⟨(tg_at 1035 (by decide +kernel) rfl), (tg_at 53 (by decide +kernel) rfl), (tg_at 67 (by decide +kernel) rfl), (tg_at 1036 (by decide +kernel) rfl)⟩
theorem hd_X7_findFits : yX7_findFits.cls = RX7 ∧ yX7_findFits.cls ≠ "java/lang/invoke/MethodHandle" ∧ yX7_findFits.cls ≠ "java/lang/invoke/VarHandle" ∧ (parseMethodDescriptor yX7_findFits.desc).map (fun d => d.parameters.length) = some 0 := by decide +kernel
theorem mi_X7_findFits : Cond.instanceMethod yX7_findFits ∈ lw_tg ∧ Cond.selects RX7 yX7_findFits yX7_findFits ∈ lw_tg ∧ Cond.initialized RX7 ∈ lw_tg ∧ Cond.code yX7_findFits cX7_findFits 2 none ∈ lw_tg := ⟨(tg_at 1059 (by decide +kernel) rfl), (tg_at 54 (by decide +kernel) rfl), (tg_at 67 (by decide +kernel) rfl), (tg_at 1060 (by decide +kernel) rfl)⟩
theorem hd_X7_stepMark : yX7_stepMark.cls = RX7 ∧ yX7_stepMark.cls ≠ "java/lang/invoke/MethodHandle" ∧ yX7_stepMark.cls ≠ "java/lang/invoke/VarHandle" ∧ (parseMethodDescriptor yX7_stepMark.desc).map (fun d => d.parameters.length) = some 1 := by decide +kernel
theorem mi_X7_stepMark : Cond.instanceMethod yX7_stepMark ∈ lw_tg ∧ Cond.selects RX7 yX7_stepMark yX7_stepMark ∈ lw_tg ∧ Cond.initialized RX7 ∈ lw_tg ∧ Cond.code yX7_stepMark cX7_stepMark 2 (some .int) ∈ lw_tg := ⟨(tg_at 1072 (by decide +kernel) rfl), (tg_at 55 (by decide +kernel) rfl), (tg_at 67 (by decide +kernel) rfl), (tg_at 1073 (by decide +kernel) rfl)⟩
theorem hd_X7_firmMark : yX7_firmMark.cls = RX7 ∧ yX7_firmMark.cls ≠ "java/lang/invoke/MethodHandle" ∧ yX7_firmMark.cls ≠ "java/lang/invoke/VarHandle" ∧ (parseMethodDescriptor yX7_firmMark.desc).map (fun d => d.parameters.length) = some 1 := by decide +kernel
theorem mi_X7_firmMark : Cond.instanceMethod yX7_firmMark ∈ lw_tg ∧ Cond.selects RX7 yX7_firmMark yX7_firmMark ∈ lw_tg ∧ Cond.initialized RX7 ∈ lw_tg ∧ Cond.code yX7_firmMark cX7_firmMark 2 (some .int) ∈ lw_tg := ⟨(tg_at 1076 (by decide +kernel) rfl), (tg_at 56 (by decide +kernel) rfl), (tg_at 67 (by decide +kernel) rfl), (tg_at 1077 (by decide +kernel) rfl)⟩
theorem hd_X7_slimyMark : yX7_slimyMark.cls = RX7 ∧ yX7_slimyMark.cls ≠ "java/lang/invoke/MethodHandle" ∧ yX7_slimyMark.cls ≠ "java/lang/invoke/VarHandle" ∧ (parseMethodDescriptor yX7_slimyMark.desc).map (fun d => d.parameters.length) = some 1 := by decide +kernel
theorem mi_X7_slimyMark : Cond.instanceMethod yX7_slimyMark ∈ lw_tg ∧ Cond.selects RX7 yX7_slimyMark yX7_slimyMark ∈ lw_tg ∧ Cond.initialized RX7 ∈ lw_tg ∧ Cond.code yX7_slimyMark cX7_slimyMark 4 (some .int) ∈ lw_tg := ⟨(tg_at 1081 (by decide +kernel) rfl), (tg_at 57 (by decide +kernel) rfl), (tg_at 67 (by decide +kernel) rfl), (tg_at 1082 (by decide +kernel) rfl)⟩
theorem hd_X7_shafts : yX7_shafts.cls = RX7 ∧ yX7_shafts.cls ≠ "java/lang/invoke/MethodHandle" ∧ yX7_shafts.cls ≠ "java/lang/invoke/VarHandle" ∧ (parseMethodDescriptor yX7_shafts.desc).map (fun d => d.parameters.length) = some 0 := by decide +kernel
theorem mi_X7_shafts : Cond.instanceMethod yX7_shafts ∈ lw_tg ∧ Cond.selects RX7 yX7_shafts yX7_shafts ∈ lw_tg ∧ Cond.initialized RX7 ∈ lw_tg ∧ Cond.code yX7_shafts cX7_shafts 3 (some .int) ∈ lw_tg := ⟨(tg_at 1088 (by decide +kernel) rfl), (tg_at 58 (by decide +kernel) rfl), (tg_at 67 (by decide +kernel) rfl), (tg_at 1089 (by decide +kernel) rfl)⟩
theorem mk_X0_33 : Cond.methodLink RX0 33 yX0_isWorn ∈ lw_tg := (tg_at 548 (by decide +kernel) rfl)
theorem mk_X0_40 : Cond.methodLink RX0 40 yX4_unwornRate ∈ lw_tg := (tg_at 483 (by decide +kernel) rfl)
theorem mk_X0_44 : Cond.methodLink RX0 44 yX0_wornOf ∈ lw_tg := (tg_at 484 (by decide +kernel) rfl)
theorem mk_X0_48 : Cond.methodLink RX0 48 yX0_minutesOn ∈ lw_tg := (tg_at 496 (by decide +kernel) rfl)
theorem mk_X0_58 : Cond.methodLink RX0 58 yX0_tire ∈ lw_tg := (tg_at 513 (by decide +kernel) rfl)
theorem kl_X0_62 : Cond.methodLink RX0 62 Lib.Math.min.name ∈ lw_tg := (tg_at 517 (by decide +kernel) rfl)
theorem kl_X0_67 : Cond.methodLink RX0 67 Lib.Math.max.name ∈ lw_tg := (tg_at 518 (by decide +kernel) rfl)
theorem mk_X1_47 : Cond.methodLink RX1 47 yX0_copy ∈ lw_tg := (tg_at 569 (by decide +kernel) rfl)
theorem mk_X1_54 : Cond.methodLink RX1 54 yX1_search ∈ lw_tg := (tg_at 570 (by decide +kernel) rfl)
theorem mk_X1_58 : Cond.methodLink RX1 58 yX1_take ∈ lw_tg := (tg_at 574 (by decide +kernel) rfl)
theorem mk_X1_65 : Cond.methodLink RX1 65 yX0_wornOf ∈ lw_tg := (tg_at 578 (by decide +kernel) rfl)
theorem mk_X1_69 : Cond.methodLink RX1 69 yX0_minutesToWalk ∈ lw_tg := (tg_at 579 (by decide +kernel) rfl)
theorem mk_X1_72 : Cond.methodLink RX1 72 yX1_mayBeQuicker ∈ lw_tg := (tg_at 580 (by decide +kernel) rfl)
theorem mk_X1_76 : Cond.methodLink RX1 76 yX0_walkOn ∈ lw_tg := (tg_at 584 (by decide +kernel) rfl)
theorem mk_X2_18 : Cond.methodLink RX2 18 yX4_empty ∈ lw_tg := (tg_at 367 (by decide +kernel) rfl)
theorem mk_X2_34 : Cond.methodLink RX2 34 yX2_nextToken ∈ lw_tg := (tg_at 371 (by decide +kernel) rfl)
theorem mk_X2_40 : Cond.methodLink RX2 40 yX2_readItem ∈ lw_tg := (tg_at 392 (by decide +kernel) rfl)
theorem mk_X2_47 : Cond.methodLink RX2 47 yX4_prepare ∈ lw_tg := (tg_at 427 (by decide +kernel) rfl)
theorem mk_X2_53 : Cond.methodLink RX2 53 yX2_mayBegin ∈ lw_tg := (tg_at 396 (by decide +kernel) rfl)
theorem mk_X2_57 : Cond.methodLink RX2 57 yX2_boundsOf ∈ lw_tg := (tg_at 400 (by decide +kernel) rfl)
theorem mk_X2_61 : Cond.methodLink RX2 61 yX2_readNumbers ∈ lw_tg := (tg_at 411 (by decide +kernel) rfl)
theorem mk_X2_65 : Cond.methodLink RX2 65 yX2_tell ∈ lw_tg := (tg_at 415 (by decide +kernel) rfl)
theorem mk_X2_87 : Cond.methodLink RX2 87 yX4_addWalker ∈ lw_tg := (tg_at 419 (by decide +kernel) rfl)
theorem mk_X2_91 : Cond.methodLink RX2 91 yX4_addStretch ∈ lw_tg := (tg_at 423 (by decide +kernel) rfl)
theorem mk_X2_104 : Cond.methodLink RX2 104 yX2_isLetter ∈ lw_tg := (tg_at 375 (by decide +kernel) rfl)
theorem mk_X2_108 : Cond.methodLink RX2 108 yX2_takeLetters ∈ lw_tg := (tg_at 378 (by decide +kernel) rfl)
theorem mk_X2_111 : Cond.methodLink RX2 111 yX2_isDigit ∈ lw_tg := (tg_at 382 (by decide +kernel) rfl)
theorem mk_X2_114 : Cond.methodLink RX2 114 yX2_takeNumber ∈ lw_tg := (tg_at 385 (by decide +kernel) rfl)
theorem kl_X2_117 : Cond.methodLink RX2 117 Lib.Math.min.name ∈ lw_tg := (tg_at 389 (by decide +kernel) rfl)
theorem mk_X3_48 : Cond.methodLink RX3 48 yX3_gatherDue ∈ lw_tg := (tg_at 657 (by decide +kernel) rfl)
theorem mk_X3_52 : Cond.methodLink RX3 52 yX0_begin ∈ lw_tg := (tg_at 662 (by decide +kernel) rfl)
theorem mk_X3_55 : Cond.methodLink RX3 55 yX3_search ∈ lw_tg := (tg_at 663 (by decide +kernel) rfl)
theorem kl_X3_62 : Cond.methodLink RX3 62 Lib.Math.max.name ∈ lw_tg := (tg_at 661 (by decide +kernel) rfl)
theorem mk_X3_73 : Cond.methodLink RX3 73 yX3_addRows ∈ lw_tg := (tg_at 667 (by decide +kernel) rfl)
theorem mk_X3_84 : Cond.methodLink RX3 84 yX0_minutesToWalk ∈ lw_tg := (tg_at 675 (by decide +kernel) rfl)
theorem mk_X3_88 : Cond.methodLink RX3 88 yX3_mayFit ∈ lw_tg := (tg_at 676 (by decide +kernel) rfl)
theorem mk_X3_92 : Cond.methodLink RX3 92 yX0_copy ∈ lw_tg := (tg_at 680 (by decide +kernel) rfl)
theorem mk_X3_96 : Cond.methodLink RX3 96 yX0_walkOn ∈ lw_tg := (tg_at 681 (by decide +kernel) rfl)
theorem mk_X3_109 : Cond.methodLink RX3 109 yX3_bitsOf ∈ lw_tg := (tg_at 672 (by decide +kernel) rfl)
theorem mk_X4_55 : Cond.methodLink RX4 55 yX4_boundMinutes ∈ lw_tg := (tg_at 431 (by decide +kernel) rfl)
theorem mk_X4_59 : Cond.methodLink RX4 59 yX4_unwornRate ∈ lw_tg := (tg_at 435 (by decide +kernel) rfl)
theorem kl_X4_63 : Cond.methodLink RX4 63 Lib.Math.min.name ∈ lw_tg := (tg_at 439 (by decide +kernel) rfl)
theorem kl_X4_68 : Cond.methodLink RX4 68 Lib.Math.max.name ∈ lw_tg := (tg_at 440 (by decide +kernel) rfl)
theorem mk_X5_22 : Cond.methodLink RX5 22 yX0_begin ∈ lw_tg := (tg_at 447 (by decide +kernel) rfl)
theorem mk_X5_29 : Cond.methodLink RX5 29 yX0_copy ∈ lw_tg := (tg_at 505 (by decide +kernel) rfl)
theorem mk_X5_33 : Cond.methodLink RX5 33 yX5_loseOldest ∈ lw_tg := (tg_at 501 (by decide +kernel) rfl)
theorem mk_X6_75 : Cond.methodLink RX6 75 yX2_readInto ∈ lw_tg := (tg_at 363 (by decide +kernel) rfl)
theorem mk_X6_79 : Cond.methodLink RX6 79 yX5_restart ∈ lw_tg := (tg_at 443 (by decide +kernel) rfl)
theorem mk_X6_87 : Cond.methodLink RX6 87 yX6_moved ∈ lw_tg := (tg_at 451 (by decide +kernel) rfl)
theorem mk_X6_105 : Cond.methodLink RX6 105 yX0_isWorn ∈ lw_tg := (tg_at 459 (by decide +kernel) rfl)
theorem mk_X6_109 : Cond.methodLink RX6 109 yX4_hasStretch ∈ lw_tg := (tg_at 467 (by decide +kernel) rfl)
theorem mk_X6_125 : Cond.methodLink RX6 125 yX4_hasPair ∈ lw_tg := (tg_at 475 (by decide +kernel) rfl)
theorem mk_X6_128 : Cond.methodLink RX6 128 yX0_minutesOn ∈ lw_tg := (tg_at 479 (by decide +kernel) rfl)
theorem mk_X6_138 : Cond.methodLink RX6 138 yX0_minutesToWalk ∈ lw_tg := (tg_at 492 (by decide +kernel) rfl)
theorem mk_X6_145 : Cond.methodLink RX6 145 yX5_remember ∈ lw_tg := (tg_at 497 (by decide +kernel) rfl)
theorem mk_X6_148 : Cond.methodLink RX6 148 yX0_walkOn ∈ lw_tg := (tg_at 509 (by decide +kernel) rfl)
theorem mk_X6_155 : Cond.methodLink RX6 155 yX0_tire ∈ lw_tg := (tg_at 523 (by decide +kernel) rfl)
theorem mk_X6_159 : Cond.methodLink RX6 159 yX0_ease ∈ lw_tg := (tg_at 528 (by decide +kernel) rfl)
theorem mk_X6_166 : Cond.methodLink RX6 166 yX5_takeBack ∈ lw_tg := (tg_at 536 (by decide +kernel) rfl)
theorem mk_X6_169 : Cond.methodLink RX6 169 yX0_wornBits ∈ lw_tg := (tg_at 544 (by decide +kernel) rfl)
theorem mk_X6_172 : Cond.methodLink RX6 172 yX4_isFree ∈ lw_tg := (tg_at 549 (by decide +kernel) rfl)
theorem mk_X6_175 : Cond.methodLink RX6 175 yX4_furlongs ∈ lw_tg := (tg_at 553 (by decide +kernel) rfl)
theorem mk_X6_182 : Cond.methodLink RX6 182 yX6_planned ∈ lw_tg := (tg_at 561 (by decide +kernel) rfl)
theorem mk_X6_185 : Cond.methodLink RX6 185 yX1_plan ∈ lw_tg := (tg_at 565 (by decide +kernel) rfl)
theorem mk_X6_195 : Cond.methodLink RX6 195 yX6_minutesWithHired ∈ lw_tg := (tg_at 593 (by decide +kernel) rfl)
theorem mk_X6_198 : Cond.methodLink RX6 198 yX4_furlongsOf ∈ lw_tg := (tg_at 598 (by decide +kernel) rfl)
theorem mk_X6_202 : Cond.methodLink RX6 202 yX0_copy ∈ lw_tg := (tg_at 597 (by decide +kernel) rfl)
theorem mk_X6_209 : Cond.methodLink RX6 209 yX6_minutesThrough ∈ lw_tg := (tg_at 606 (by decide +kernel) rfl)
theorem mk_X6_212 : Cond.methodLink RX6 212 yX4_freeMinutesLeft ∈ lw_tg := (tg_at 610 (by decide +kernel) rfl)
theorem mk_X6_215 : Cond.methodLink RX6 215 yX6_meetingStretch ∈ lw_tg := (tg_at 618 (by decide +kernel) rfl)
theorem mk_X6_219 : Cond.methodLink RX6 219 yX4_slimyFrom ∈ lw_tg := (tg_at 626 (by decide +kernel) rfl)
theorem mk_X6_222 : Cond.methodLink RX6 222 yX6_power ∈ lw_tg := (tg_at 630 (by decide +kernel) rfl)
theorem mk_X6_225 : Cond.methodLink RX6 225 yX6_commonDivisor ∈ lw_tg := (tg_at 633 (by decide +kernel) rfl)
theorem kl_X6_228 : Cond.methodLink RX6 228 Lib.Math.max.name ∈ lw_tg := (tg_at 636 (by decide +kernel) rfl)
theorem mk_X6_233 : Cond.methodLink RX6 233 yX3_add ∈ lw_tg := (tg_at 641 (by decide +kernel) rfl)
theorem mk_X6_236 : Cond.methodLink RX6 236 yX3_look ∈ lw_tg := (tg_at 653 (by decide +kernel) rfl)
theorem mk_X6_250 : Cond.methodLink RX6 250 yX6_asStep ∈ lw_tg := (tg_at 691 (by decide +kernel) rfl)
theorem mk_X6_253 : Cond.methodLink RX6 253 yX6_asFirm ∈ lw_tg := (tg_at 695 (by decide +kernel) rfl)
theorem mk_X6_256 : Cond.methodLink RX6 256 yX6_asSlimy ∈ lw_tg := (tg_at 700 (by decide +kernel) rfl)
theorem mk_X6_259 : Cond.methodLink RX6 259 yX6_asStretched ∈ lw_tg := (tg_at 709 (by decide +kernel) rfl)
theorem mk_X6_262 : Cond.methodLink RX6 262 yX6_asCramped ∈ lw_tg := (tg_at 714 (by decide +kernel) rfl)
theorem mk_X6_265 : Cond.methodLink RX6 265 yX6_asBlind ∈ lw_tg := (tg_at 723 (by decide +kernel) rfl)
theorem mk_X6_276 : Cond.methodLink RX6 276 yX0_tiredTogether ∈ lw_tg := (tg_at 705 (by decide +kernel) rfl)
theorem mk_X6_284 : Cond.methodLink RX6 284 yX4_shafts ∈ lw_tg := (tg_at 719 (by decide +kernel) rfl)
theorem mk_X6_289 : Cond.methodLink RX6 289 yX5_copy ∈ lw_tg := (tg_at 732 (by decide +kernel) rfl)
theorem mk_X7_66 : Cond.methodLink RX7 66 yX7_begins ∈ lw_tg := (tg_at 754 (by decide +kernel) rfl)
theorem mk_X7_72 : Cond.methodLink RX7 72 yX7_in ∈ lw_tg := (tg_at 865 (by decide +kernel) rfl)
theorem mk_X7_79 : Cond.methodLink RX7 79 yX7_isWalker ∈ lw_tg := (tg_at 910 (by decide +kernel) rfl)
theorem mk_X7_89 : Cond.methodLink RX7 89 yX7_byteAt ∈ lw_tg := (tg_at 880 (by decide +kernel) rfl)
theorem mk_X7_102 : Cond.methodLink RX7 102 yX7_isSmall ∈ lw_tg := (tg_at 884 (by decide +kernel) rfl)
theorem mk_X7_105 : Cond.methodLink RX7 105 yX7_isFigure ∈ lw_tg := (tg_at 887 (by decide +kernel) rfl)
theorem mk_X7_112 : Cond.methodLink RX7 112 yX7_next ∈ lw_tg := (tg_at 876 (by decide +kernel) rfl)
theorem mk_X7_118 : Cond.methodLink RX7 118 yX7_reads ∈ lw_tg := (tg_at 898 (by decide +kernel) rfl)
theorem mk_X7_125 : Cond.methodLink RX7 125 yX7_readWalker ∈ lw_tg := (tg_at 894 (by decide +kernel) rfl)
theorem mk_X7_128 : Cond.methodLink RX7 128 yX7_readStretch ∈ lw_tg := (tg_at 902 (by decide +kernel) rfl)
theorem mk_X7_131 : Cond.methodLink RX7 131 yX7_readItem ∈ lw_tg := (tg_at 890 (by decide +kernel) rfl)
theorem mk_X7_143 : Cond.methodLink RX7 143 yX7_isWorn ∈ lw_tg := (tg_at 938 (by decide +kernel) rfl)
theorem mk_X7_147 : Cond.methodLink RX7 147 yX7_takesAt ∈ lw_tg := (tg_at 934 (by decide +kernel) rfl)
theorem mk_X7_151 : Cond.methodLink RX7 151 yX7_tires ∈ lw_tg := (tg_at 950 (by decide +kernel) rfl)
theorem mk_X7_155 : Cond.methodLink RX7 155 yX7_fromNow ∈ lw_tg := (tg_at 930 (by decide +kernel) rfl)
theorem mk_X7_158 : Cond.methodLink RX7 158 yX7_walksOn ∈ lw_tg := (tg_at 946 (by decide +kernel) rfl)
theorem mk_X7_161 : Cond.methodLink RX7 161 yX7_isStretch ∈ lw_tg := (tg_at 918 (by decide +kernel) rfl)
theorem mk_X7_164 : Cond.methodLink RX7 164 yX7_isPair ∈ lw_tg := (tg_at 926 (by decide +kernel) rfl)
theorem mk_X7_167 : Cond.methodLink RX7 167 yX7_remembers ∈ lw_tg := (tg_at 958 (by decide +kernel) rfl)
theorem mk_X7_170 : Cond.methodLink RX7 170 yX7_becomes ∈ lw_tg := (tg_at 954 (by decide +kernel) rfl)
theorem mk_X7_173 : Cond.methodLink RX7 173 yX7_isFree ∈ lw_tg := (tg_at 978 (by decide +kernel) rfl)
theorem mk_X7_176 : Cond.methodLink RX7 176 yX7_isAsSeen ∈ lw_tg := (tg_at 1006 (by decide +kernel) rfl)
theorem mk_X7_185 : Cond.methodLink RX7 185 yX7_finds ∈ lw_tg := (tg_at 994 (by decide +kernel) rfl)
theorem mk_X7_189 : Cond.methodLink RX7 189 yX7_pairBy ∈ lw_tg := (tg_at 998 (by decide +kernel) rfl)
theorem mk_X7_192 : Cond.methodLink RX7 192 yX7_goesDown ∈ lw_tg := (tg_at 1002 (by decide +kernel) rfl)
theorem mk_X7_196 : Cond.methodLink RX7 196 yX7_search ∈ lw_tg := (tg_at 990 (by decide +kernel) rfl)
theorem mk_X7_199 : Cond.methodLink RX7 199 yX7_told ∈ lw_tg := (tg_at 986 (by decide +kernel) rfl)
theorem mk_X7_203 : Cond.methodLink RX7 203 yX7_penceOf ∈ lw_tg := (tg_at 1018 (by decide +kernel) rfl)
theorem mk_X7_206 : Cond.methodLink RX7 206 yX7_minutesBy ∈ lw_tg := (tg_at 1025 (by decide +kernel) rfl)
theorem mk_X7_209 : Cond.methodLink RX7 209 yX7_has ∈ lw_tg := (tg_at 1022 (by decide +kernel) rfl)
theorem mk_X7_212 : Cond.methodLink RX7 212 yX7_walksAll ∈ lw_tg := (tg_at 1033 (by decide +kernel) rfl)
theorem mk_X7_215 : Cond.methodLink RX7 215 yX7_findFits ∈ lw_tg := (tg_at 1057 (by decide +kernel) rfl)
theorem mk_X7_224 : Cond.methodLink RX7 224 yX7_stepMark ∈ lw_tg := (tg_at 1070 (by decide +kernel) rfl)
theorem mk_X7_230 : Cond.methodLink RX7 230 yX7_firmMark ∈ lw_tg := (tg_at 1074 (by decide +kernel) rfl)
theorem mk_X7_233 : Cond.methodLink RX7 233 yX7_slimyMark ∈ lw_tg := (tg_at 1079 (by decide +kernel) rfl)
theorem mk_X7_240 : Cond.methodLink RX7 240 yX7_shafts ∈ lw_tg := (tg_at 1086 (by decide +kernel) rfl)
theorem kc_X6_249 : Cond.constant RX6 249 (-1000000) ∈ lw_tg := (tg_at 690 (by decide +kernel) rfl)
theorem kc_X6_272 : Cond.constantLong RX6 272 (10) ∈ lw_tg := (tg_at 699 (by decide +kernel) rfl)
theorem kc_X6_274 : Cond.constantLong RX6 274 (100) ∈ lw_tg := (tg_at 704 (by decide +kernel) rfl)
theorem kc_X6_280 : Cond.constantLong RX6 280 (1000) ∈ lw_tg := (tg_at 713 (by decide +kernel) rfl)
theorem kc_X6_282 : Cond.constantLong RX6 282 (10000) ∈ lw_tg := (tg_at 718 (by decide +kernel) rfl)
theorem kc_X6_287 : Cond.constantLong RX6 287 (100000) ∈ lw_tg := (tg_at 727 (by decide +kernel) rfl)
theorem kc_X7_222 : Cond.constantLong RX7 222 (10) ∈ lw_tg := (tg_at 1078 (by decide +kernel) rfl)
theorem kc_X7_227 : Cond.constantLong RX7 227 (100) ∈ lw_tg := (tg_at 1083 (by decide +kernel) rfl)
theorem kc_X7_229 : Cond.constant RX7 229 (-1000000) ∈ lw_tg := (tg_at 1069 (by decide +kernel) rfl)
theorem kc_X7_236 : Cond.constantLong RX7 236 (1000) ∈ lw_tg := (tg_at 1084 (by decide +kernel) rfl)
theorem kc_X7_238 : Cond.constantLong RX7 238 (10000) ∈ lw_tg := (tg_at 1085 (by decide +kernel) rfl)
theorem kc_X7_244 : Cond.constantLong RX7 244 (100000) ∈ lw_tg := (tg_at 1090 (by decide +kernel) rfl)
theorem sg_X2_75 : Cond.fieldLink RX2 75 RX2 (stN 0) "[I" ∈ lw_tg := (tg_at 403 (by decide +kernel) rfl)
theorem sg_X2_78 : Cond.fieldLink RX2 78 RX2 (stN 1) "[I" ∈ lw_tg := (tg_at 405 (by decide +kernel) rfl)
theorem sg_X2_81 : Cond.fieldLink RX2 81 RX2 (stN 2) "[I" ∈ lw_tg := (tg_at 407 (by decide +kernel) rfl)
theorem sg_X2_84 : Cond.fieldLink RX2 84 RX2 (stN 3) "[I" ∈ lw_tg := (tg_at 409 (by decide +kernel) rfl)
end WORDS
end
