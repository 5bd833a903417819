-- ===== PART A: goes FIRST, ahead of the names: the tables' words, and 'selects' of the private methods out of them =====
/-- a private method of a class that the tables say can be made, by its rows of tables_1 -/
def lw_okq (q : MethodName × Nat) : Prop := (q.1.cls ≠ "java/lang/invoke/MethodHandle" ∧ q.1.cls ≠ "java/lang/invoke/VarHandle") ∧ Cond.instantiable q.1.cls q.2 ∈ tables_1 ∧ Cond.privateMethod q.1 ∈ tables_1 ∧ Cond.instanceMethod q.1 ∈ tables_1
theorem lw_p0 : lw_okq (⟨"AnvilStreet", "refuse", "(I)I"⟩, 12) := ⟨⟨by decide +kernel, by decide +kernel⟩, List.mem_of_getElem? (i := 17) (by decide +kernel), List.mem_of_getElem? (i := 232) (by decide +kernel), List.mem_of_getElem? (i := 233) (by decide +kernel)⟩
theorem lw_p1 : lw_okq (⟨"AnvilStreet$Script", "endOfRun", "(I)I"⟩, 8) := ⟨⟨by decide +kernel, by decide +kernel⟩, List.mem_of_getElem? (i := 108) (by decide +kernel), List.mem_of_getElem? (i := 275) (by decide +kernel), List.mem_of_getElem? (i := 276) (by decide +kernel)⟩
theorem lw_p2 : lw_okq (⟨"AnvilStreet$Script", "sortOf", "(II)I"⟩, 8) := ⟨⟨by decide +kernel, by decide +kernel⟩, List.mem_of_getElem? (i := 108) (by decide +kernel), List.mem_of_getElem? (i := 282) (by decide +kernel), List.mem_of_getElem? (i := 283) (by decide +kernel)⟩
theorem lw_p3 : lw_okq (⟨"AnvilStreet$Script", "sortOfWord", "(II)I"⟩, 8) := ⟨⟨by decide +kernel, by decide +kernel⟩, List.mem_of_getElem? (i := 108) (by decide +kernel), List.mem_of_getElem? (i := 286) (by decide +kernel), List.mem_of_getElem? (i := 287) (by decide +kernel)⟩
theorem lw_p4 : lw_okq (⟨"AnvilStreet$Script", "isWord", "(Ljava/lang/String;II)Z"⟩, 8) := ⟨⟨by decide +kernel, by decide +kernel⟩, List.mem_of_getElem? (i := 108) (by decide +kernel), List.mem_of_getElem? (i := 291) (by decide +kernel), List.mem_of_getElem? (i := 292) (by decide +kernel)⟩
theorem lw_p5 : lw_okq (⟨"AnvilStreet$Script", "valueOf", "(II)I"⟩, 8) := ⟨⟨by decide +kernel, by decide +kernel⟩, List.mem_of_getElem? (i := 108) (by decide +kernel), List.mem_of_getElem? (i := 346) (by decide +kernel), List.mem_of_getElem? (i := 347) (by decide +kernel)⟩
theorem lw_p6 : lw_okq (⟨"AnvilStreet$Script", "addToken", "(III)V"⟩, 8) := ⟨⟨by decide +kernel, by decide +kernel⟩, List.mem_of_getElem? (i := 108) (by decide +kernel), List.mem_of_getElem? (i := 350) (by decide +kernel), List.mem_of_getElem? (i := 351) (by decide +kernel)⟩
theorem lw_p7 : lw_okq (⟨"AnvilStreet$Script", "isNow", "(I)Z"⟩, 8) := ⟨⟨by decide +kernel, by decide +kernel⟩, List.mem_of_getElem? (i := 108) (by decide +kernel), List.mem_of_getElem? (i := 361) (by decide +kernel), List.mem_of_getElem? (i := 362) (by decide +kernel)⟩
theorem lw_p8 : lw_okq (⟨"AnvilStreet$Script", "takesNumber", "(II)Z"⟩, 8) := ⟨⟨by decide +kernel, by decide +kernel⟩, List.mem_of_getElem? (i := 108) (by decide +kernel), List.mem_of_getElem? (i := 365) (by decide +kernel), List.mem_of_getElem? (i := 366) (by decide +kernel)⟩
theorem lw_p9 : lw_okq (⟨"AnvilStreet$Script", "advance", "()V"⟩, 8) := ⟨⟨by decide +kernel, by decide +kernel⟩, List.mem_of_getElem? (i := 108) (by decide +kernel), List.mem_of_getElem? (i := 369) (by decide +kernel), List.mem_of_getElem? (i := 370) (by decide +kernel)⟩
theorem lw_p10 : lw_okq (⟨"AnvilStreet$Script", "fault", "()I"⟩, 8) := ⟨⟨by decide +kernel, by decide +kernel⟩, List.mem_of_getElem? (i := 108) (by decide +kernel), List.mem_of_getElem? (i := 374) (by decide +kernel), List.mem_of_getElem? (i := 375) (by decide +kernel)⟩
theorem lw_p11 : lw_okq (⟨"AnvilStreet$Script", "takesStop", "()Z"⟩, 8) := ⟨⟨by decide +kernel, by decide +kernel⟩, List.mem_of_getElem? (i := 108) (by decide +kernel), List.mem_of_getElem? (i := 379) (by decide +kernel), List.mem_of_getElem? (i := 380) (by decide +kernel)⟩
theorem lw_p12 : lw_okq (⟨"AnvilStreet$Script", "takesItem", "(LAnvilStreet$Street;)Z"⟩, 8) := ⟨⟨by decide +kernel, by decide +kernel⟩, List.mem_of_getElem? (i := 108) (by decide +kernel), List.mem_of_getElem? (i := 383) (by decide +kernel), List.mem_of_getElem? (i := 384) (by decide +kernel)⟩
theorem lw_p13 : lw_okq (⟨"AnvilStreet$Script", "takesAnvil", "(LAnvilStreet$Street;)Z"⟩, 8) := ⟨⟨by decide +kernel, by decide +kernel⟩, List.mem_of_getElem? (i := 108) (by decide +kernel), List.mem_of_getElem? (i := 387) (by decide +kernel), List.mem_of_getElem? (i := 388) (by decide +kernel)⟩
theorem lw_p14 : lw_okq (⟨"AnvilStreet$Script", "takesWork", "(LAnvilStreet$Street;)Z"⟩, 8) := ⟨⟨by decide +kernel, by decide +kernel⟩, List.mem_of_getElem? (i := 108) (by decide +kernel), List.mem_of_getElem? (i := 392) (by decide +kernel), List.mem_of_getElem? (i := 393) (by decide +kernel)⟩
theorem lw_p15 : lw_okq (⟨"AnvilStreet", "isPlace", "(II)Z"⟩, 12) := ⟨⟨by decide +kernel, by decide +kernel⟩, List.mem_of_getElem? (i := 17) (by decide +kernel), List.mem_of_getElem? (i := 450) (by decide +kernel), List.mem_of_getElem? (i := 451) (by decide +kernel)⟩
def lw_privs_1 : List (MethodName × Nat) := [(⟨"AnvilStreet", "refuse", "(I)I"⟩, 12), (⟨"AnvilStreet$Script", "endOfRun", "(I)I"⟩, 8), (⟨"AnvilStreet$Script", "sortOf", "(II)I"⟩, 8), (⟨"AnvilStreet$Script", "sortOfWord", "(II)I"⟩, 8), (⟨"AnvilStreet$Script", "isWord", "(Ljava/lang/String;II)Z"⟩, 8), (⟨"AnvilStreet$Script", "valueOf", "(II)I"⟩, 8), (⟨"AnvilStreet$Script", "addToken", "(III)V"⟩, 8), (⟨"AnvilStreet$Script", "isNow", "(I)Z"⟩, 8), (⟨"AnvilStreet$Script", "takesNumber", "(II)Z"⟩, 8), (⟨"AnvilStreet$Script", "advance", "()V"⟩, 8), (⟨"AnvilStreet$Script", "fault", "()I"⟩, 8), (⟨"AnvilStreet$Script", "takesStop", "()Z"⟩, 8), (⟨"AnvilStreet$Script", "takesItem", "(LAnvilStreet$Street;)Z"⟩, 8), (⟨"AnvilStreet$Script", "takesAnvil", "(LAnvilStreet$Street;)Z"⟩, 8), (⟨"AnvilStreet$Script", "takesWork", "(LAnvilStreet$Street;)Z"⟩, 8), (⟨"AnvilStreet", "isPlace", "(II)Z"⟩, 12)]
theorem lw_r1 : ∀ q ∈ lw_privs_1, lw_okq q := List.forall_mem_cons.mpr ⟨lw_p0, List.forall_mem_cons.mpr ⟨lw_p1, List.forall_mem_cons.mpr ⟨lw_p2, List.forall_mem_cons.mpr ⟨lw_p3, List.forall_mem_cons.mpr ⟨lw_p4, List.forall_mem_cons.mpr ⟨lw_p5, List.forall_mem_cons.mpr ⟨lw_p6, List.forall_mem_cons.mpr ⟨lw_p7, List.forall_mem_cons.mpr ⟨lw_p8, List.forall_mem_cons.mpr ⟨lw_p9, List.forall_mem_cons.mpr ⟨lw_p10, List.forall_mem_cons.mpr ⟨lw_p11, List.forall_mem_cons.mpr ⟨lw_p12, List.forall_mem_cons.mpr ⟨lw_p13, List.forall_mem_cons.mpr ⟨lw_p14, List.forall_mem_cons.mpr ⟨lw_p15, fun _ h => absurd h List.not_mem_nil⟩⟩⟩⟩⟩⟩⟩⟩⟩⟩⟩⟩⟩⟩⟩⟩
theorem lw_p16 : lw_okq (⟨"AnvilStreet", "refuseTenBelow", "()I"⟩, 12) := ⟨⟨by decide +kernel, by decide +kernel⟩, List.mem_of_getElem? (i := 17) (by decide +kernel), List.mem_of_getElem? (i := 564) (by decide +kernel), List.mem_of_getElem? (i := 565) (by decide +kernel)⟩
theorem lw_p17 : lw_okq (⟨"AnvilStreet", "kindsThatFit", "(I)I"⟩, 12) := ⟨⟨by decide +kernel, by decide +kernel⟩, List.mem_of_getElem? (i := 17) (by decide +kernel), List.mem_of_getElem? (i := 603) (by decide +kernel), List.mem_of_getElem? (i := 604) (by decide +kernel)⟩
theorem lw_p18 : lw_okq (⟨"AnvilStreet", "notesFit", "(II)Z"⟩, 12) := ⟨⟨by decide +kernel, by decide +kernel⟩, List.mem_of_getElem? (i := 17) (by decide +kernel), List.mem_of_getElem? (i := 607) (by decide +kernel), List.mem_of_getElem? (i := 608) (by decide +kernel)⟩
theorem lw_p19 : lw_okq (⟨"AnvilStreet", "mostAlike", "(III)I"⟩, 12) := ⟨⟨by decide +kernel, by decide +kernel⟩, List.mem_of_getElem? (i := 17) (by decide +kernel), List.mem_of_getElem? (i := 619) (by decide +kernel), List.mem_of_getElem? (i := 620) (by decide +kernel)⟩
theorem lw_p20 : lw_okq (⟨"AnvilStreet", "leavingAlike", "(I)I"⟩, 12) := ⟨⟨by decide +kernel, by decide +kernel⟩, List.mem_of_getElem? (i := 17) (by decide +kernel), List.mem_of_getElem? (i := 623) (by decide +kernel), List.mem_of_getElem? (i := 624) (by decide +kernel)⟩
theorem lw_p21 : lw_okq (⟨"AnvilStreet", "couldRemember", "(III)Z"⟩, 12) := ⟨⟨by decide +kernel, by decide +kernel⟩, List.mem_of_getElem? (i := 17) (by decide +kernel), List.mem_of_getElem? (i := 632) (by decide +kernel), List.mem_of_getElem? (i := 633) (by decide +kernel)⟩
theorem lw_p22 : lw_okq (⟨"AnvilStreet$Market", "isBestAgainst", "([III)Z"⟩, 3) := ⟨⟨by decide +kernel, by decide +kernel⟩, List.mem_of_getElem? (i := 169) (by decide +kernel), List.mem_of_getElem? (i := 657) (by decide +kernel), List.mem_of_getElem? (i := 658) (by decide +kernel)⟩
theorem lw_p23 : lw_okq (⟨"AnvilStreet", "setFraction", "(II)V"⟩, 12) := ⟨⟨by decide +kernel, by decide +kernel⟩, List.mem_of_getElem? (i := 17) (by decide +kernel), List.mem_of_getElem? (i := 668) (by decide +kernel), List.mem_of_getElem? (i := 669) (by decide +kernel)⟩
theorem lw_p24 : lw_okq (⟨"AnvilStreet", "tally", "(I)I"⟩, 12) := ⟨⟨by decide +kernel, by decide +kernel⟩, List.mem_of_getElem? (i := 17) (by decide +kernel), List.mem_of_getElem? (i := 709) (by decide +kernel), List.mem_of_getElem? (i := 710) (by decide +kernel)⟩
theorem lw_p25 : lw_okq (⟨"AnvilStreetModel", "bad", "(I)I"⟩, 20) := ⟨⟨by decide +kernel, by decide +kernel⟩, List.mem_of_getElem? (i := 725) (by decide +kernel), List.mem_of_getElem? (i := 804) (by decide +kernel), List.mem_of_getElem? (i := 805) (by decide +kernel)⟩
theorem lw_p26 : lw_okq (⟨"AnvilStreetModel", "many", "()I"⟩, 20) := ⟨⟨by decide +kernel, by decide +kernel⟩, List.mem_of_getElem? (i := 725) (by decide +kernel), List.mem_of_getElem? (i := 808) (by decide +kernel), List.mem_of_getElem? (i := 809) (by decide +kernel)⟩
theorem lw_p27 : lw_okq (⟨"AnvilStreetModel", "full", "()I"⟩, 20) := ⟨⟨by decide +kernel, by decide +kernel⟩, List.mem_of_getElem? (i := 725) (by decide +kernel), List.mem_of_getElem? (i := 821) (by decide +kernel), List.mem_of_getElem? (i := 822) (by decide +kernel)⟩
theorem lw_p28 : lw_okq (⟨"AnvilStreetModel", "isAnvil", "(I)Z"⟩, 20) := ⟨⟨by decide +kernel, by decide +kernel⟩, List.mem_of_getElem? (i := 725) (by decide +kernel), List.mem_of_getElem? (i := 832) (by decide +kernel), List.mem_of_getElem? (i := 833) (by decide +kernel)⟩
theorem lw_p29 : lw_okq (⟨"AnvilStreetModel", "keepPast", "()V"⟩, 20) := ⟨⟨by decide +kernel, by decide +kernel⟩, List.mem_of_getElem? (i := 725) (by decide +kernel), List.mem_of_getElem? (i := 840) (by decide +kernel), List.mem_of_getElem? (i := 841) (by decide +kernel)⟩
theorem lw_p30 : lw_okq (⟨"AnvilStreetModel", "layHand", "()V"⟩, 20) := ⟨⟨by decide +kernel, by decide +kernel⟩, List.mem_of_getElem? (i := 725) (by decide +kernel), List.mem_of_getElem? (i := 844) (by decide +kernel), List.mem_of_getElem? (i := 845) (by decide +kernel)⟩
theorem lw_p31 : lw_okq (⟨"AnvilStreetModel", "goWork", "(III)I"⟩, 20) := ⟨⟨by decide +kernel, by decide +kernel⟩, List.mem_of_getElem? (i := 725) (by decide +kernel), List.mem_of_getElem? (i := 848) (by decide +kernel), List.mem_of_getElem? (i := 849) (by decide +kernel)⟩
def lw_privs_2 : List (MethodName × Nat) := [(⟨"AnvilStreet", "refuseTenBelow", "()I"⟩, 12), (⟨"AnvilStreet", "kindsThatFit", "(I)I"⟩, 12), (⟨"AnvilStreet", "notesFit", "(II)Z"⟩, 12), (⟨"AnvilStreet", "mostAlike", "(III)I"⟩, 12), (⟨"AnvilStreet", "leavingAlike", "(I)I"⟩, 12), (⟨"AnvilStreet", "couldRemember", "(III)Z"⟩, 12), (⟨"AnvilStreet$Market", "isBestAgainst", "([III)Z"⟩, 3), (⟨"AnvilStreet", "setFraction", "(II)V"⟩, 12), (⟨"AnvilStreet", "tally", "(I)I"⟩, 12), (⟨"AnvilStreetModel", "bad", "(I)I"⟩, 20), (⟨"AnvilStreetModel", "many", "()I"⟩, 20), (⟨"AnvilStreetModel", "full", "()I"⟩, 20), (⟨"AnvilStreetModel", "isAnvil", "(I)Z"⟩, 20), (⟨"AnvilStreetModel", "keepPast", "()V"⟩, 20), (⟨"AnvilStreetModel", "layHand", "()V"⟩, 20), (⟨"AnvilStreetModel", "goWork", "(III)I"⟩, 20)]
theorem lw_r2 : ∀ q ∈ lw_privs_2, lw_okq q := List.forall_mem_cons.mpr ⟨lw_p16, List.forall_mem_cons.mpr ⟨lw_p17, List.forall_mem_cons.mpr ⟨lw_p18, List.forall_mem_cons.mpr ⟨lw_p19, List.forall_mem_cons.mpr ⟨lw_p20, List.forall_mem_cons.mpr ⟨lw_p21, List.forall_mem_cons.mpr ⟨lw_p22, List.forall_mem_cons.mpr ⟨lw_p23, List.forall_mem_cons.mpr ⟨lw_p24, List.forall_mem_cons.mpr ⟨lw_p25, List.forall_mem_cons.mpr ⟨lw_p26, List.forall_mem_cons.mpr ⟨lw_p27, List.forall_mem_cons.mpr ⟨lw_p28, List.forall_mem_cons.mpr ⟨lw_p29, List.forall_mem_cons.mpr ⟨lw_p30, List.forall_mem_cons.mpr ⟨lw_p31, fun _ h => absurd h List.not_mem_nil⟩⟩⟩⟩⟩⟩⟩⟩⟩⟩⟩⟩⟩⟩⟩⟩
theorem lw_p32 : lw_okq (⟨"AnvilStreetModel", "foreignOf", "(II)I"⟩, 20) := ⟨⟨by decide +kernel, by decide +kernel⟩, List.mem_of_getElem? (i := 725) (by decide +kernel), List.mem_of_getElem? (i := 852) (by decide +kernel), List.mem_of_getElem? (i := 853) (by decide +kernel)⟩
theorem lw_p33 : lw_okq (⟨"AnvilStreetModel", "upOf", "(II)I"⟩, 20) := ⟨⟨by decide +kernel, by decide +kernel⟩, List.mem_of_getElem? (i := 725) (by decide +kernel), List.mem_of_getElem? (i := 856) (by decide +kernel), List.mem_of_getElem? (i := 857) (by decide +kernel)⟩
theorem lw_p34 : lw_okq (⟨"AnvilStreetModel", "kindOf", "(I)I"⟩, 20) := ⟨⟨by decide +kernel, by decide +kernel⟩, List.mem_of_getElem? (i := 725) (by decide +kernel), List.mem_of_getElem? (i := 860) (by decide +kernel), List.mem_of_getElem? (i := 861) (by decide +kernel)⟩
theorem lw_p35 : lw_okq (⟨"AnvilStreetModel", "layNow", "()V"⟩, 20) := ⟨⟨by decide +kernel, by decide +kernel⟩, List.mem_of_getElem? (i := 725) (by decide +kernel), List.mem_of_getElem? (i := 870) (by decide +kernel), List.mem_of_getElem? (i := 871) (by decide +kernel)⟩
theorem lw_p36 : lw_okq (⟨"AnvilStreetModel", "goDay", "()V"⟩, 20) := ⟨⟨by decide +kernel, by decide +kernel⟩, List.mem_of_getElem? (i := 725) (by decide +kernel), List.mem_of_getElem? (i := 879) (by decide +kernel), List.mem_of_getElem? (i := 880) (by decide +kernel)⟩
theorem lw_p37 : lw_okq (⟨"AnvilStreetModel", "no", "()I"⟩, 20) := ⟨⟨by decide +kernel, by decide +kernel⟩, List.mem_of_getElem? (i := 725) (by decide +kernel), List.mem_of_getElem? (i := 898) (by decide +kernel), List.mem_of_getElem? (i := 899) (by decide +kernel)⟩
theorem lw_p38 : lw_okq (⟨"AnvilStreetModel", "sumOf", "(I)I"⟩, 20) := ⟨⟨by decide +kernel, by decide +kernel⟩, List.mem_of_getElem? (i := 725) (by decide +kernel), List.mem_of_getElem? (i := 924) (by decide +kernel), List.mem_of_getElem? (i := 925) (by decide +kernel)⟩
theorem lw_p39 : lw_okq (⟨"AnvilStreetModel", "layOrders", "(I)Z"⟩, 20) := ⟨⟨by decide +kernel, by decide +kernel⟩, List.mem_of_getElem? (i := 725) (by decide +kernel), List.mem_of_getElem? (i := 940) (by decide +kernel), List.mem_of_getElem? (i := 941) (by decide +kernel)⟩
theorem lw_p40 : lw_okq (⟨"AnvilStreetModel", "kindsOf", "(I)I"⟩, 20) := ⟨⟨by decide +kernel, by decide +kernel⟩, List.mem_of_getElem? (i := 725) (by decide +kernel), List.mem_of_getElem? (i := 969) (by decide +kernel), List.mem_of_getElem? (i := 970) (by decide +kernel)⟩
theorem lw_p41 : lw_okq (⟨"AnvilStreetModel", "rests", "(IIII)Z"⟩, 20) := ⟨⟨by decide +kernel, by decide +kernel⟩, List.mem_of_getElem? (i := 725) (by decide +kernel), List.mem_of_getElem? (i := 992) (by decide +kernel), List.mem_of_getElem? (i := 993) (by decide +kernel)⟩
theorem lw_p42 : lw_okq (⟨"AnvilStreetModel", "getsBy", "(III)I"⟩, 20) := ⟨⟨by decide +kernel, by decide +kernel⟩, List.mem_of_getElem? (i := 725) (by decide +kernel), List.mem_of_getElem? (i := 996) (by decide +kernel), List.mem_of_getElem? (i := 997) (by decide +kernel)⟩
theorem lw_p43 : lw_okq (⟨"AnvilStreetModel", "fraction", "(JJ)V"⟩, 20) := ⟨⟨by decide +kernel, by decide +kernel⟩, List.mem_of_getElem? (i := 725) (by decide +kernel), List.mem_of_getElem? (i := 1005) (by decide +kernel), List.mem_of_getElem? (i := 1006) (by decide +kernel)⟩
theorem lw_p44 : lw_okq (⟨"AnvilStreetModel", "lookAt", "(I)V"⟩, 20) := ⟨⟨by decide +kernel, by decide +kernel⟩, List.mem_of_getElem? (i := 725) (by decide +kernel), List.mem_of_getElem? (i := 1033) (by decide +kernel), List.mem_of_getElem? (i := 1034) (by decide +kernel)⟩
theorem lw_p45 : lw_okq (⟨"AnvilStreetModel", "takesStreet", "()Z"⟩, 20) := ⟨⟨by decide +kernel, by decide +kernel⟩, List.mem_of_getElem? (i := 725) (by decide +kernel), List.mem_of_getElem? (i := 1047) (by decide +kernel), List.mem_of_getElem? (i := 1048) (by decide +kernel)⟩
theorem lw_p46 : lw_okq (⟨"AnvilStreetModel", "spells", "(IIIIIII)Z"⟩, 20) := ⟨⟨by decide +kernel, by decide +kernel⟩, List.mem_of_getElem? (i := 725) (by decide +kernel), List.mem_of_getElem? (i := 1051) (by decide +kernel), List.mem_of_getElem? (i := 1052) (by decide +kernel)⟩
theorem lw_p47 : lw_okq (⟨"AnvilStreetModel", "goBehind", "()V"⟩, 20) := ⟨⟨by decide +kernel, by decide +kernel⟩, List.mem_of_getElem? (i := 725) (by decide +kernel), List.mem_of_getElem? (i := 1055) (by decide +kernel), List.mem_of_getElem? (i := 1056) (by decide +kernel)⟩
def lw_privs_3 : List (MethodName × Nat) := [(⟨"AnvilStreetModel", "foreignOf", "(II)I"⟩, 20), (⟨"AnvilStreetModel", "upOf", "(II)I"⟩, 20), (⟨"AnvilStreetModel", "kindOf", "(I)I"⟩, 20), (⟨"AnvilStreetModel", "layNow", "()V"⟩, 20), (⟨"AnvilStreetModel", "goDay", "()V"⟩, 20), (⟨"AnvilStreetModel", "no", "()I"⟩, 20), (⟨"AnvilStreetModel", "sumOf", "(I)I"⟩, 20), (⟨"AnvilStreetModel", "layOrders", "(I)Z"⟩, 20), (⟨"AnvilStreetModel", "kindsOf", "(I)I"⟩, 20), (⟨"AnvilStreetModel", "rests", "(IIII)Z"⟩, 20), (⟨"AnvilStreetModel", "getsBy", "(III)I"⟩, 20), (⟨"AnvilStreetModel", "fraction", "(JJ)V"⟩, 20), (⟨"AnvilStreetModel", "lookAt", "(I)V"⟩, 20), (⟨"AnvilStreetModel", "takesStreet", "()Z"⟩, 20), (⟨"AnvilStreetModel", "spells", "(IIIIIII)Z"⟩, 20), (⟨"AnvilStreetModel", "goBehind", "()V"⟩, 20)]
theorem lw_r3 : ∀ q ∈ lw_privs_3, lw_okq q := List.forall_mem_cons.mpr ⟨lw_p32, List.forall_mem_cons.mpr ⟨lw_p33, List.forall_mem_cons.mpr ⟨lw_p34, List.forall_mem_cons.mpr ⟨lw_p35, List.forall_mem_cons.mpr ⟨lw_p36, List.forall_mem_cons.mpr ⟨lw_p37, List.forall_mem_cons.mpr ⟨lw_p38, List.forall_mem_cons.mpr ⟨lw_p39, List.forall_mem_cons.mpr ⟨lw_p40, List.forall_mem_cons.mpr ⟨lw_p41, List.forall_mem_cons.mpr ⟨lw_p42, List.forall_mem_cons.mpr ⟨lw_p43, List.forall_mem_cons.mpr ⟨lw_p44, List.forall_mem_cons.mpr ⟨lw_p45, List.forall_mem_cons.mpr ⟨lw_p46, List.forall_mem_cons.mpr ⟨lw_p47, fun _ h => absurd h List.not_mem_nil⟩⟩⟩⟩⟩⟩⟩⟩⟩⟩⟩⟩⟩⟩⟩⟩
theorem lw_p48 : lw_okq (⟨"AnvilStreetModel", "takes", "(III)Z"⟩, 20) := ⟨⟨by decide +kernel, by decide +kernel⟩, List.mem_of_getElem? (i := 725) (by decide +kernel), List.mem_of_getElem? (i := 1059) (by decide +kernel), List.mem_of_getElem? (i := 1060) (by decide +kernel)⟩
theorem lw_p49 : lw_okq (⟨"AnvilStreetModel", "takesItem", "()Z"⟩, 20) := ⟨⟨by decide +kernel, by decide +kernel⟩, List.mem_of_getElem? (i := 725) (by decide +kernel), List.mem_of_getElem? (i := 1063) (by decide +kernel), List.mem_of_getElem? (i := 1064) (by decide +kernel)⟩
theorem lw_p50 : lw_okq (⟨"AnvilStreetModel", "takesAnvil", "()Z"⟩, 20) := ⟨⟨by decide +kernel, by decide +kernel⟩, List.mem_of_getElem? (i := 725) (by decide +kernel), List.mem_of_getElem? (i := 1067) (by decide +kernel), List.mem_of_getElem? (i := 1068) (by decide +kernel)⟩
theorem lw_p51 : lw_okq (⟨"AnvilStreetModel", "takesWork", "()Z"⟩, 20) := ⟨⟨by decide +kernel, by decide +kernel⟩, List.mem_of_getElem? (i := 725) (by decide +kernel), List.mem_of_getElem? (i := 1071) (by decide +kernel), List.mem_of_getElem? (i := 1072) (by decide +kernel)⟩
theorem lw_p52 : lw_okq (⟨"AnvilStreetModel", "takesDay", "()Z"⟩, 20) := ⟨⟨by decide +kernel, by decide +kernel⟩, List.mem_of_getElem? (i := 725) (by decide +kernel), List.mem_of_getElem? (i := 1075) (by decide +kernel), List.mem_of_getElem? (i := 1076) (by decide +kernel)⟩
theorem lw_p53 : lw_okq (⟨"AnvilStreetModel", "counted", "(I)I"⟩, 20) := ⟨⟨by decide +kernel, by decide +kernel⟩, List.mem_of_getElem? (i := 725) (by decide +kernel), List.mem_of_getElem? (i := 1101) (by decide +kernel), List.mem_of_getElem? (i := 1102) (by decide +kernel)⟩
theorem lw_p54 : lw_okq (⟨"AnvilStreetModel", "sums", "(JII)J"⟩, 20) := ⟨⟨by decide +kernel, by decide +kernel⟩, List.mem_of_getElem? (i := 725) (by decide +kernel), List.mem_of_getElem? (i := 1111) (by decide +kernel), List.mem_of_getElem? (i := 1112) (by decide +kernel)⟩
def lw_privs_4 : List (MethodName × Nat) := [(⟨"AnvilStreetModel", "takes", "(III)Z"⟩, 20), (⟨"AnvilStreetModel", "takesItem", "()Z"⟩, 20), (⟨"AnvilStreetModel", "takesAnvil", "()Z"⟩, 20), (⟨"AnvilStreetModel", "takesWork", "()Z"⟩, 20), (⟨"AnvilStreetModel", "takesDay", "()Z"⟩, 20), (⟨"AnvilStreetModel", "counted", "(I)I"⟩, 20), (⟨"AnvilStreetModel", "sums", "(JII)J"⟩, 20)]
theorem lw_r4 : ∀ q ∈ lw_privs_4, lw_okq q := List.forall_mem_cons.mpr ⟨lw_p48, List.forall_mem_cons.mpr ⟨lw_p49, List.forall_mem_cons.mpr ⟨lw_p50, List.forall_mem_cons.mpr ⟨lw_p51, List.forall_mem_cons.mpr ⟨lw_p52, List.forall_mem_cons.mpr ⟨lw_p53, List.forall_mem_cons.mpr ⟨lw_p54, fun _ h => absurd h List.not_mem_nil⟩⟩⟩⟩⟩⟩⟩
def lw_privs : List (MethodName × Nat) := lw_privs_1 ++ (lw_privs_2 ++ (lw_privs_3 ++ (lw_privs_4)))
def lw_tbl : List Cond := k2_sels lw_privs ++ tables_1
theorem lw_privs_ok : ∀ q ∈ lw_privs, lw_okq q := by
  show ∀ q ∈ lw_privs_1 ++ (lw_privs_2 ++ (lw_privs_3 ++ (lw_privs_4))), lw_okq q
  exact List.forall_mem_append.mpr ⟨lw_r1, List.forall_mem_append.mpr ⟨lw_r2, List.forall_mem_append.mpr ⟨lw_r3, lw_r4⟩⟩⟩

def RX0 : String := "AnvilStreet$Kinds"
def TX0 : u_T := fun k => match k with
  | _ => ("", "", "", false)
def tyX0 : Nat → FieldType := fun k => match k with
  | _ => .int
theorem nmX0 : ∀ a, a < 0 → ∀ b, b < 0 → a ≠ b → (TX0 a).2.1 ≠ (TX0 b).2.1 := by decide +kernel
theorem tyX0_ok : ∀ k, k < 0 → parseFieldDescriptor (TX0 k).2.2.1 = some (tyX0 k) := by decide +kernel
abbrev cX0_left : ByteArray := prog_2_method_2_code
def yX0_left : MethodName := ⟨RX0, "left", "(III)I"⟩
abbrev cX0_risen : ByteArray := prog_2_method_3_code
def yX0_risen : MethodName := ⟨RX0, "risen", "(III)I"⟩
abbrev cX0_added : ByteArray := prog_2_method_4_code
def yX0_added : MethodName := ⟨RX0, "added", "(II)I"⟩
def RX1 : String := "AnvilStreet$Market"
def TX1 : u_T := fun k => match k with
  | 0 => ("AnvilStreet$Market", "first", "[I", true)
  | 1 => ("AnvilStreet$Market", "second", "[I", true)
  | _ => ("AnvilStreet$Market", "anvils", "I", false)
def tyX1 : Nat → FieldType := fun k => match k with
  | 0 => .array .int
  | 1 => .array .int
  | _ => .int
theorem nmX1 : ∀ a, a < 3 → ∀ b, b < 3 → a ≠ b → (TX1 a).2.1 ≠ (TX1 b).2.1 := by decide +kernel
theorem tyX1_ok : ∀ k, k < 3 → parseFieldDescriptor (TX1 k).2.2.1 = some (tyX1 k) := by decide +kernel
abbrev cX1_init : ByteArray := prog_3_method_1_code
def yX1_init : MethodName := ⟨RX1, "<init>", "()V"⟩
abbrev cX1_open : ByteArray := prog_3_method_2_code
def yX1_open : MethodName := ⟨RX1, "open", "(LAnvilStreet$Street;II)V"⟩
abbrev cX1_rests : ByteArray := prog_3_method_3_code
def yX1_rests : MethodName := ⟨RX1, "rests", "(II)Z"⟩
abbrev cX1_isBestAgainst : ByteArray := prog_3_method_4_code
def yX1_isBestAgainst : MethodName := ⟨RX1, "isBestAgainst", "([III)Z"⟩
abbrev cX1_gained : ByteArray := prog_3_method_5_code
def yX1_gained : MethodName := ⟨RX1, "gained", "([III)I"⟩
def RX2 : String := "AnvilStreet$Past"
def TX2 : u_T := fun k => match k with
  | 0 => ("AnvilStreet$Past", "memories", "[I", true)
  | 1 => ("AnvilStreet$Past", "days", "[I", true)
  | 2 => ("AnvilStreet$Past", "grips", "[I", true)
  | _ => ("AnvilStreet$Past", "size", "I", false)
def tyX2 : Nat → FieldType := fun k => match k with
  | 0 => .array .int
  | 1 => .array .int
  | 2 => .array .int
  | _ => .int
theorem nmX2 : ∀ a, a < 4 → ∀ b, b < 4 → a ≠ b → (TX2 a).2.1 ≠ (TX2 b).2.1 := by decide +kernel
theorem tyX2_ok : ∀ k, k < 4 → parseFieldDescriptor (TX2 k).2.2.1 = some (tyX2 k) := by decide +kernel
abbrev cX2_init : ByteArray := prog_4_method_1_code
def yX2_init : MethodName := ⟨RX2, "<init>", "()V"⟩
abbrev cX2_append : ByteArray := prog_4_method_2_code
def yX2_append : MethodName := ⟨RX2, "append", "([III)V"⟩
abbrev cX2_dropOldest : ByteArray := prog_4_method_3_code
def yX2_dropOldest : MethodName := ⟨RX2, "dropOldest", "(I)V"⟩
abbrev cX2_takePast : ByteArray := prog_4_method_4_code
def yX2_takePast : MethodName := ⟨RX2, "takePast", "(LAnvilStreet$Past;)V"⟩
def RX3 : String := "AnvilStreet$Plan"
def TX3 : u_T := fun k => match k with
  | 0 => ("AnvilStreet$Plan", "tempers", "[I", true)
  | 1 => ("AnvilStreet$Plan", "way", "[I", true)
  | 2 => ("AnvilStreet$Plan", "chosen", "[I", true)
  | 3 => ("AnvilStreet$Plan", "size", "I", false)
  | 4 => ("AnvilStreet$Plan", "blows", "I", false)
  | _ => ("AnvilStreet$Plan", "least", "I", false)
def tyX3 : Nat → FieldType := fun k => match k with
  | 0 => .array .int
  | 1 => .array .int
  | 2 => .array .int
  | 3 => .int
  | 4 => .int
  | _ => .int
theorem nmX3 : ∀ a, a < 6 → ∀ b, b < 6 → a ≠ b → (TX3 a).2.1 ≠ (TX3 b).2.1 := by decide +kernel
theorem tyX3_ok : ∀ k, k < 6 → parseFieldDescriptor (TX3 k).2.2.1 = some (tyX3 k) := by decide +kernel
abbrev cX3_init : ByteArray := prog_5_method_1_code
def yX3_init : MethodName := ⟨RX3, "<init>", "()V"⟩
abbrev cX3_tell : ByteArray := prog_5_method_2_code
def yX3_tell : MethodName := ⟨RX3, "tell", "(I)Z"⟩
abbrev cX3_search : ByteArray := prog_5_method_3_code
def yX3_search : MethodName := ⟨RX3, "search", "(LAnvilStreet$Street;I)V"⟩
abbrev cX3_place : ByteArray := prog_5_method_4_code
def yX3_place : MethodName := ⟨RX3, "place", "(LAnvilStreet$Plan;LAnvilStreet$Street;II)V"⟩
def RX4 : String := "AnvilStreet$Rows"
def TX4 : u_T := fun k => match k with
  | 0 => ("AnvilStreet$Rows", "cells", "[I", true)
  | _ => ("AnvilStreet$Rows", "size", "I", false)
def tyX4 : Nat → FieldType := fun k => match k with
  | 0 => .array .int
  | _ => .int
theorem nmX4 : ∀ a, a < 2 → ∀ b, b < 2 → a ≠ b → (TX4 a).2.1 ≠ (TX4 b).2.1 := by decide +kernel
theorem tyX4_ok : ∀ k, k < 2 → parseFieldDescriptor (TX4 k).2.2.1 = some (tyX4 k) := by decide +kernel
abbrev cX4_init : ByteArray := prog_6_method_1_code
def yX4_init : MethodName := ⟨RX4, "<init>", "()V"⟩
abbrev cX4_append : ByteArray := prog_6_method_2_code
def yX4_append : MethodName := ⟨RX4, "append", "(IIII)Z"⟩
abbrev cX4_at : ByteArray := prog_6_method_3_code
def yX4_at : MethodName := ⟨RX4, "at", "(II)I"⟩
abbrev cX4_takeRows : ByteArray := prog_6_method_4_code
def yX4_takeRows : MethodName := ⟨RX4, "takeRows", "(LAnvilStreet$Rows;)V"⟩
def RX5 : String := "AnvilStreet$Script"
def TX5 : u_T := fun k => match k with
  | 0 => ("AnvilStreet$Script", "text", "[B", true)
  | 1 => ("AnvilStreet$Script", "sorts", "[I", true)
  | 2 => ("AnvilStreet$Script", "starts", "[I", true)
  | 3 => ("AnvilStreet$Script", "values", "[I", true)
  | 4 => ("AnvilStreet$Script", "numbers", "[I", true)
  | 5 => ("AnvilStreet$Script", "size", "I", false)
  | 6 => ("AnvilStreet$Script", "tokens", "I", false)
  | _ => ("AnvilStreet$Script", "current", "I", false)
def tyX5 : Nat → FieldType := fun k => match k with
  | 0 => .array .byte
  | 1 => .array .int
  | 2 => .array .int
  | 3 => .array .int
  | 4 => .array .int
  | 5 => .int
  | 6 => .int
  | _ => .int
theorem nmX5 : ∀ a, a < 8 → ∀ b, b < 8 → a ≠ b → (TX5 a).2.1 ≠ (TX5 b).2.1 := by decide +kernel
theorem tyX5_ok : ∀ k, k < 8 → parseFieldDescriptor (TX5 k).2.2.1 = some (tyX5 k) := by decide +kernel
abbrev cX5_init : ByteArray := prog_7_method_1_code
def yX5_init : MethodName := ⟨RX5, "<init>", "()V"⟩
abbrev cX5_append : ByteArray := prog_7_method_2_code
def yX5_append : MethodName := ⟨RX5, "append", "(I)Z"⟩
abbrev cX5_scan : ByteArray := prog_7_method_3_code
def yX5_scan : MethodName := ⟨RX5, "scan", "()V"⟩
abbrev cX5_addToken : ByteArray := prog_7_method_4_code
def yX5_addToken : MethodName := ⟨RX5, "addToken", "(III)V"⟩
abbrev cX5_endOfRun : ByteArray := prog_7_method_5_code
def yX5_endOfRun : MethodName := ⟨RX5, "endOfRun", "(I)I"⟩
abbrev cX5_familyOf : ByteArray := prog_7_method_6_code
def yX5_familyOf : MethodName := ⟨RX5, "familyOf", "(I)I"⟩
abbrev cX5_sortOf : ByteArray := prog_7_method_7_code
def yX5_sortOf : MethodName := ⟨RX5, "sortOf", "(II)I"⟩
abbrev cX5_sortOfWord : ByteArray := prog_7_method_8_code
def yX5_sortOfWord : MethodName := ⟨RX5, "sortOfWord", "(II)I"⟩
abbrev cX5_isWord : ByteArray := prog_7_method_9_code
def yX5_isWord : MethodName := ⟨RX5, "isWord", "(Ljava/lang/String;II)Z"⟩
abbrev cX5_valueOf : ByteArray := prog_7_method_10_code
def yX5_valueOf : MethodName := ⟨RX5, "valueOf", "(II)I"⟩
abbrev cX5_build : ByteArray := prog_7_method_11_code
def yX5_build : MethodName := ⟨RX5, "build", "(LAnvilStreet$Street;)I"⟩
abbrev cX5_advance : ByteArray := prog_7_method_12_code
def yX5_advance : MethodName := ⟨RX5, "advance", "()V"⟩
abbrev cX5_isNow : ByteArray := prog_7_method_13_code
def yX5_isNow : MethodName := ⟨RX5, "isNow", "(I)Z"⟩
abbrev cX5_fault : ByteArray := prog_7_method_14_code
def yX5_fault : MethodName := ⟨RX5, "fault", "()I"⟩
abbrev cX5_takesStop : ByteArray := prog_7_method_15_code
def yX5_takesStop : MethodName := ⟨RX5, "takesStop", "()Z"⟩
abbrev cX5_takesNumber : ByteArray := prog_7_method_16_code
def yX5_takesNumber : MethodName := ⟨RX5, "takesNumber", "(II)Z"⟩
abbrev cX5_takesItem : ByteArray := prog_7_method_17_code
def yX5_takesItem : MethodName := ⟨RX5, "takesItem", "(LAnvilStreet$Street;)Z"⟩
abbrev cX5_takesAnvil : ByteArray := prog_7_method_18_code
def yX5_takesAnvil : MethodName := ⟨RX5, "takesAnvil", "(LAnvilStreet$Street;)Z"⟩
abbrev cX5_takesWork : ByteArray := prog_7_method_19_code
def yX5_takesWork : MethodName := ⟨RX5, "takesWork", "(LAnvilStreet$Street;)Z"⟩
def RX6 : String := "AnvilStreet$Street"
def TX6 : u_T := fun k => match k with
  | 0 => ("AnvilStreet$Street", "kinds", "[I", true)
  | 1 => ("AnvilStreet$Street", "memories", "[I", true)
  | 2 => ("AnvilStreet$Street", "notes", "LAnvilStreet$Rows;", true)
  | 3 => ("AnvilStreet$Street", "comings", "LAnvilStreet$Rows;", true)
  | 4 => ("AnvilStreet$Street", "past", "LAnvilStreet$Past;", true)
  | 5 => ("AnvilStreet$Street", "anvils", "I", false)
  | 6 => ("AnvilStreet$Street", "today", "I", false)
  | _ => ("AnvilStreet$Street", "grip", "I", false)
def tyX6 : Nat → FieldType := fun k => match k with
  | 0 => .array .int
  | 1 => .array .int
  | 2 => .object "AnvilStreet$Rows"
  | 3 => .object "AnvilStreet$Rows"
  | 4 => .object "AnvilStreet$Past"
  | 5 => .int
  | 6 => .int
  | _ => .int
theorem nmX6 : ∀ a, a < 8 → ∀ b, b < 8 → a ≠ b → (TX6 a).2.1 ≠ (TX6 b).2.1 := by decide +kernel
theorem tyX6_ok : ∀ k, k < 8 → parseFieldDescriptor (TX6 k).2.2.1 = some (tyX6 k) := by decide +kernel
abbrev cX6_init : ByteArray := prog_8_method_1_code
def yX6_init : MethodName := ⟨RX6, "<init>", "()V"⟩
abbrev cX6_begin : ByteArray := prog_8_method_2_code
def yX6_begin : MethodName := ⟨RX6, "begin", "(I)V"⟩
abbrev cX6_takeAnvils : ByteArray := prog_8_method_3_code
def yX6_takeAnvils : MethodName := ⟨RX6, "takeAnvils", "(LAnvilStreet$Street;)V"⟩
abbrev cX6_takeAll : ByteArray := prog_8_method_4_code
def yX6_takeAll : MethodName := ⟨RX6, "takeAll", "(LAnvilStreet$Street;)V"⟩
abbrev cX6_has : ByteArray := prog_8_method_5_code
def yX6_has : MethodName := ⟨RX6, "has", "(I)Z"⟩
abbrev cX6_join : ByteArray := prog_8_method_6_code
def yX6_join : MethodName := ⟨RX6, "join", "(IIIII)I"⟩
abbrev cX6_remembered : ByteArray := prog_8_method_7_code
def yX6_remembered : MethodName := ⟨RX6, "remembered", "(II)I"⟩
abbrev cX6_setMemory : ByteArray := prog_8_method_8_code
def yX6_setMemory : MethodName := ⟨RX6, "setMemory", "(III)V"⟩
abbrev cX6_remembersNothing : ByteArray := prog_8_method_9_code
def yX6_remembersNothing : MethodName := ⟨RX6, "remembersNothing", "(I)Z"⟩
abbrev cX6_risen : ByteArray := prog_8_method_10_code
def yX6_risen : MethodName := ⟨RX6, "risen", "(II)I"⟩
abbrev cX6_holdsDown : ByteArray := prog_8_method_11_code
def yX6_holdsDown : MethodName := ⟨RX6, "holdsDown", "(II)Z"⟩
abbrev cX6_unwanted : ByteArray := prog_8_method_12_code
def yX6_unwanted : MethodName := ⟨RX6, "unwanted", "(II)I"⟩
abbrev cX6_beat : ByteArray := prog_8_method_13_code
def yX6_beat : MethodName := ⟨RX6, "beat", "(III)I"⟩
abbrev cX6_addMemory : ByteArray := prog_8_method_14_code
def yX6_addMemory : MethodName := ⟨RX6, "addMemory", "(III)V"⟩
abbrev cX6_fade : ByteArray := prog_8_method_15_code
def yX6_fade : MethodName := ⟨RX6, "fade", "(II)V"⟩
abbrev cX6_fadeAll : ByteArray := prog_8_method_16_code
def yX6_fadeAll : MethodName := ⟨RX6, "fadeAll", "(I)V"⟩
abbrev cX6_passDay : ByteArray := prog_8_method_17_code
def yX6_passDay : MethodName := ⟨RX6, "passDay", "()V"⟩
abbrev cX6_remember : ByteArray := prog_8_method_18_code
def yX6_remember : MethodName := ⟨RX6, "remember", "()V"⟩
abbrev cX6_goBack : ByteArray := prog_8_method_19_code
def yX6_goBack : MethodName := ⟨RX6, "goBack", "()Z"⟩
def RX7 : String := "AnvilStreet"
def TX7 : u_T := fun k => match k with
  | 0 => ("AnvilStreet", "now", "LAnvilStreet$Street;", true)
  | 1 => ("AnvilStreet", "trial", "LAnvilStreet$Street;", true)
  | 2 => ("AnvilStreet", "images", "[LAnvilStreet$Street;", true)
  | 3 => ("AnvilStreet", "script", "LAnvilStreet$Script;", true)
  | 4 => ("AnvilStreet", "plan", "LAnvilStreet$Plan;", true)
  | 5 => ("AnvilStreet", "market", "LAnvilStreet$Market;", true)
  | 6 => ("AnvilStreet", "leavings", "[I", true)
  | 7 => ("AnvilStreet", "above", "I", false)
  | 8 => ("AnvilStreet", "below", "I", false)
  | 9 => ("AnvilStreet", "bads", "I", false)
  | 10 => ("AnvilStreet", "noes", "I", false)
  | _ => ("AnvilStreet", "fulls", "I", false)
def tyX7 : Nat → FieldType := fun k => match k with
  | 0 => .object "AnvilStreet$Street"
  | 1 => .object "AnvilStreet$Street"
  | 2 => .array (.object "AnvilStreet$Street")
  | 3 => .object "AnvilStreet$Script"
  | 4 => .object "AnvilStreet$Plan"
  | 5 => .object "AnvilStreet$Market"
  | 6 => .array .int
  | 7 => .int
  | 8 => .int
  | 9 => .int
  | 10 => .int
  | _ => .int
theorem nmX7 : ∀ a, a < 12 → ∀ b, b < 12 → a ≠ b → (TX7 a).2.1 ≠ (TX7 b).2.1 := by decide +kernel
theorem tyX7_ok : ∀ k, k < 12 → parseFieldDescriptor (TX7 k).2.2.1 = some (tyX7 k) := by decide +kernel
abbrev cX7_init : ByteArray := prog_1_method_1_code
def yX7_init : MethodName := ⟨RX7, "<init>", "()V"⟩
abbrev cX7_street : ByteArray := prog_1_method_2_code
def yX7_street : MethodName := ⟨RX7, "street", "(I)I"⟩
abbrev cX7_anvil : ByteArray := prog_1_method_3_code
def yX7_anvil : MethodName := ⟨RX7, "anvil", "(IIIII)I"⟩
abbrev cX7_type : ByteArray := prog_1_method_4_code
def yX7_type : MethodName := ⟨RX7, "type", "(I)I"⟩
abbrev cX7_clear : ByteArray := prog_1_method_5_code
def yX7_clear : MethodName := ⟨RX7, "clear", "()I"⟩
abbrev cX7_read : ByteArray := prog_1_method_6_code
def yX7_read : MethodName := ⟨RX7, "read", "()I"⟩
abbrev cX7_work : ByteArray := prog_1_method_7_code
def yX7_work : MethodName := ⟨RX7, "work", "(III)I"⟩
abbrev cX7_day : ByteArray := prog_1_method_8_code
def yX7_day : MethodName := ⟨RX7, "day", "(I)I"⟩
abbrev cX7_salt : ByteArray := prog_1_method_9_code
def yX7_salt : MethodName := ⟨RX7, "salt", "(II)I"⟩
abbrev cX7_hand : ByteArray := prog_1_method_10_code
def yX7_hand : MethodName := ⟨RX7, "hand", "(I)I"⟩
abbrev cX7_undo : ByteArray := prog_1_method_11_code
def yX7_undo : MethodName := ⟨RX7, "undo", "()I"⟩
abbrev cX7_of : ByteArray := prog_1_method_12_code
def yX7_of : MethodName := ⟨RX7, "of", "(II)I"⟩
abbrev cX7_up : ByteArray := prog_1_method_13_code
def yX7_up : MethodName := ⟨RX7, "up", "(II)I"⟩
abbrev cX7_foreign : ByteArray := prog_1_method_14_code
def yX7_foreign : MethodName := ⟨RX7, "foreign", "(II)I"⟩
abbrev cX7_then : ByteArray := prog_1_method_15_code
def yX7_then : MethodName := ⟨RX7, "then", "(III)I"⟩
abbrev cX7_clean : ByteArray := prog_1_method_16_code
def yX7_clean : MethodName := ⟨RX7, "clean", "(I)I"⟩
abbrev cX7_keep : ByteArray := prog_1_method_17_code
def yX7_keep : MethodName := ⟨RX7, "keep", "(I)I"⟩
abbrev cX7_best : ByteArray := prog_1_method_18_code
def yX7_best : MethodName := ⟨RX7, "best", "(I)I"⟩
abbrev cX7_orders : ByteArray := prog_1_method_19_code
def yX7_orders : MethodName := ⟨RX7, "orders", "(III)I"⟩
abbrev cX7_waits : ByteArray := prog_1_method_20_code
def yX7_waits : MethodName := ⟨RX7, "waits", "(IIII)I"⟩
abbrev cX7_note : ByteArray := prog_1_method_21_code
def yX7_note : MethodName := ⟨RX7, "note", "(IIII)I"⟩
abbrev cX7_came : ByteArray := prog_1_method_22_code
def yX7_came : MethodName := ⟨RX7, "came", "(IIII)I"⟩
abbrev cX7_forget : ByteArray := prog_1_method_23_code
def yX7_forget : MethodName := ⟨RX7, "forget", "(I)I"⟩
abbrev cX7_is : ByteArray := prog_1_method_24_code
def yX7_is : MethodName := ⟨RX7, "is", "(I)I"⟩
abbrev cX7_look : ByteArray := prog_1_method_25_code
def yX7_look : MethodName := ⟨RX7, "look", "(I)I"⟩
abbrev cX7_memory : ByteArray := prog_1_method_26_code
def yX7_memory : MethodName := ⟨RX7, "memory", "(II)I"⟩
abbrev cX7_whose : ByteArray := prog_1_method_27_code
def yX7_whose : MethodName := ⟨RX7, "whose", "(IIII)I"⟩
abbrev cX7_two : ByteArray := prog_1_method_28_code
def yX7_two : MethodName := ⟨RX7, "two", "(III)I"⟩
abbrev cX7_frost : ByteArray := prog_1_method_29_code
def yX7_frost : MethodName := ⟨RX7, "frost", "(II)I"⟩
abbrev cX7_streets : ByteArray := prog_1_method_30_code
def yX7_streets : MethodName := ⟨RX7, "streets", "(II)I"⟩
abbrev cX7_part : ByteArray := prog_1_method_31_code
def yX7_part : MethodName := ⟨RX7, "part", "(I)J"⟩
abbrev cX7_image : ByteArray := prog_1_method_32_code
def yX7_image : MethodName := ⟨RX7, "image", "(I)I"⟩
abbrev cX7_from : ByteArray := prog_1_method_33_code
def yX7_from : MethodName := ⟨RX7, "from", "(I)I"⟩
abbrev cX7_status : ByteArray := prog_1_method_34_code
def yX7_status : MethodName := ⟨RX7, "status", "(I)I"⟩
abbrev cX7_count : ByteArray := prog_1_method_35_code
def yX7_count : MethodName := ⟨RX7, "count", "(I)I"⟩
abbrev cX7_digest : ByteArray := prog_1_method_36_code
def yX7_digest : MethodName := ⟨RX7, "digest", "()J"⟩
abbrev cX7_refuse : ByteArray := prog_1_method_37_code
def yX7_refuse : MethodName := ⟨RX7, "refuse", "(I)I"⟩
abbrev cX7_refuseTenBelow : ByteArray := prog_1_method_38_code
def yX7_refuseTenBelow : MethodName := ⟨RX7, "refuseTenBelow", "()I"⟩
abbrev cX7_isPlace : ByteArray := prog_1_method_39_code
def yX7_isPlace : MethodName := ⟨RX7, "isPlace", "(II)Z"⟩
abbrev cX7_isWithin : ByteArray := prog_1_method_40_code
def yX7_isWithin : MethodName := ⟨RX7, "isWithin", "(III)Z"⟩
abbrev cX7_isTemper : ByteArray := prog_1_method_41_code
def yX7_isTemper : MethodName := ⟨RX7, "isTemper", "(I)Z"⟩
abbrev cX7_isMemory : ByteArray := prog_1_method_42_code
def yX7_isMemory : MethodName := ⟨RX7, "isMemory", "(I)Z"⟩
abbrev cX7_isHand : ByteArray := prog_1_method_43_code
def yX7_isHand : MethodName := ⟨RX7, "isHand", "(I)Z"⟩
abbrev cX7_isBlows : ByteArray := prog_1_method_44_code
def yX7_isBlows : MethodName := ⟨RX7, "isBlows", "(I)Z"⟩
abbrev cX7_isUp : ByteArray := prog_1_method_45_code
def yX7_isUp : MethodName := ⟨RX7, "isUp", "(I)Z"⟩
abbrev cX7_tally : ByteArray := prog_1_method_46_code
def yX7_tally : MethodName := ⟨RX7, "tally", "(I)I"⟩
abbrev cX7_mixed : ByteArray := prog_1_method_47_code
def yX7_mixed : MethodName := ⟨RX7, "mixed", "(JI)J"⟩
abbrev cX7_mixedRows : ByteArray := prog_1_method_48_code
def yX7_mixedRows : MethodName := ⟨RX7, "mixedRows", "(JLAnvilStreet$Rows;)J"⟩
abbrev cX7_setFraction : ByteArray := prog_1_method_49_code
def yX7_setFraction : MethodName := ⟨RX7, "setFraction", "(II)V"⟩
abbrev cX7_greatestCommon : ByteArray := prog_1_method_50_code
def yX7_greatestCommon : MethodName := ⟨RX7, "greatestCommon", "(II)I"⟩
abbrev cX7_kindsThatFit : ByteArray := prog_1_method_51_code
def yX7_kindsThatFit : MethodName := ⟨RX7, "kindsThatFit", "(I)I"⟩
abbrev cX7_notesFit : ByteArray := prog_1_method_52_code
def yX7_notesFit : MethodName := ⟨RX7, "notesFit", "(II)Z"⟩
abbrev cX7_mostAlike : ByteArray := prog_1_method_53_code
def yX7_mostAlike : MethodName := ⟨RX7, "mostAlike", "(III)I"⟩
abbrev cX7_leavingAlike : ByteArray := prog_1_method_54_code
def yX7_leavingAlike : MethodName := ⟨RX7, "leavingAlike", "(I)I"⟩
abbrev cX7_couldRemember : ByteArray := prog_1_method_55_code
def yX7_couldRemember : MethodName := ⟨RX7, "couldRemember", "(III)Z"⟩
def RX8 : String := "AnvilStreetModel"
def TX8 : u_T := fun k => match k with
  | 0 => ("AnvilStreetModel", "now", "[I", true)
  | 1 => ("AnvilStreetModel", "kept", "[I", true)
  | 2 => ("AnvilStreetModel", "isKept", "[Z", true)
  | 3 => ("AnvilStreetModel", "refused", "[I", true)
  | 4 => ("AnvilStreetModel", "above", "J", false)
  | 5 => ("AnvilStreetModel", "below", "J", false)
  | 6 => ("AnvilStreetModel", "memories", "[I", true)
  | 7 => ("AnvilStreetModel", "dayThen", "I", false)
  | 8 => ("AnvilStreetModel", "tempers", "[I", true)
  | 9 => ("AnvilStreetModel", "bestAnvils", "[I", true)
  | 10 => ("AnvilStreetModel", "manyOrders", "I", false)
  | 11 => ("AnvilStreetModel", "manyBy", "[I", true)
  | 12 => ("AnvilStreetModel", "bytes", "[I", true)
  | 13 => ("AnvilStreetModel", "bytesLong", "I", false)
  | 14 => ("AnvilStreetModel", "tokenAt", "I", false)
  | 15 => ("AnvilStreetModel", "tokenLong", "I", false)
  | 16 => ("AnvilStreetModel", "token", "I", false)
  | 17 => ("AnvilStreetModel", "value", "I", false)
  | 18 => ("AnvilStreetModel", "anew", "[I", true)
  | _ => ("AnvilStreetModel", "values", "[I", true)
def tyX8 : Nat → FieldType := fun k => match k with
  | 0 => .array .int
  | 1 => .array .int
  | 2 => .array .boolean
  | 3 => .array .int
  | 4 => .long
  | 5 => .long
  | 6 => .array .int
  | 7 => .int
  | 8 => .array .int
  | 9 => .array .int
  | 10 => .int
  | 11 => .array .int
  | 12 => .array .int
  | 13 => .int
  | 14 => .int
  | 15 => .int
  | 16 => .int
  | 17 => .int
  | 18 => .array .int
  | _ => .array .int
theorem nmX8 : ∀ a, a < 20 → ∀ b, b < 20 → a ≠ b → (TX8 a).2.1 ≠ (TX8 b).2.1 := by decide +kernel
theorem tyX8_ok : ∀ k, k < 20 → parseFieldDescriptor (TX8 k).2.2.1 = some (tyX8 k) := by decide +kernel
abbrev cX8_init : ByteArray := prog_10_method_1_code
def yX8_init : MethodName := ⟨RX8, "<init>", "()V"⟩
abbrev cX8_in : ByteArray := prog_10_method_3_code
def yX8_in : MethodName := ⟨RX8, "in", "(JJJ)Z"⟩
abbrev cX8_bad : ByteArray := prog_10_method_4_code
def yX8_bad : MethodName := ⟨RX8, "bad", "(I)I"⟩
abbrev cX8_no : ByteArray := prog_10_method_5_code
def yX8_no : MethodName := ⟨RX8, "no", "()I"⟩
abbrev cX8_full : ByteArray := prog_10_method_6_code
def yX8_full : MethodName := ⟨RX8, "full", "()I"⟩
abbrev cX8_has : ByteArray := prog_10_method_8_code
def yX8_has : MethodName := ⟨RX8, "has", "(II)Z"⟩
abbrev cX8_begin : ByteArray := prog_10_method_9_code
def yX8_begin : MethodName := ⟨RX8, "begin", "([II)V"⟩
abbrev cX8_many : ByteArray := prog_10_method_10_code
def yX8_many : MethodName := ⟨RX8, "many", "()I"⟩
abbrev cX8_isAnvil : ByteArray := prog_10_method_11_code
def yX8_isAnvil : MethodName := ⟨RX8, "isAnvil", "(I)Z"⟩
abbrev cX8_isTemper : ByteArray := prog_10_method_12_code
def yX8_isTemper : MethodName := ⟨RX8, "isTemper", "(I)Z"⟩
abbrev cX8_isMemory : ByteArray := prog_10_method_13_code
def yX8_isMemory : MethodName := ⟨RX8, "isMemory", "(I)Z"⟩
abbrev cX8_street : ByteArray := prog_10_method_14_code
def yX8_street : MethodName := ⟨RX8, "street", "(I)I"⟩
abbrev cX8_layAnvil : ByteArray := prog_10_method_15_code
def yX8_layAnvil : MethodName := ⟨RX8, "layAnvil", "([IIIIII)V"⟩
abbrev cX8_anvil : ByteArray := prog_10_method_16_code
def yX8_anvil : MethodName := ⟨RX8, "anvil", "(IIIII)I"⟩
abbrev cX8_leftAs : ByteArray := prog_10_method_17_code
def yX8_leftAs : MethodName := ⟨RX8, "leftAs", "(III)I"⟩
abbrev cX8_upAs : ByteArray := prog_10_method_18_code
def yX8_upAs : MethodName := ⟨RX8, "upAs", "(III)I"⟩
abbrev cX8_moreAs : ByteArray := prog_10_method_19_code
def yX8_moreAs : MethodName := ⟨RX8, "moreAs", "(II)I"⟩
abbrev cX8_layHand : ByteArray := prog_10_method_20_code
def yX8_layHand : MethodName := ⟨RX8, "layHand", "()V"⟩
abbrev cX8_kindOf : ByteArray := prog_10_method_21_code
def yX8_kindOf : MethodName := ⟨RX8, "kindOf", "(I)I"⟩
abbrev cX8_upOf : ByteArray := prog_10_method_22_code
def yX8_upOf : MethodName := ⟨RX8, "upOf", "(II)I"⟩
abbrev cX8_foreignOf : ByteArray := prog_10_method_23_code
def yX8_foreignOf : MethodName := ⟨RX8, "foreignOf", "(II)I"⟩
abbrev cX8_goWork : ByteArray := prog_10_method_24_code
def yX8_goWork : MethodName := ⟨RX8, "goWork", "(III)I"⟩
abbrev cX8_goDay : ByteArray := prog_10_method_25_code
def yX8_goDay : MethodName := ⟨RX8, "goDay", "()V"⟩
abbrev cX8_keepPast : ByteArray := prog_10_method_26_code
def yX8_keepPast : MethodName := ⟨RX8, "keepPast", "()V"⟩
abbrev cX8_layNow : ByteArray := prog_10_method_27_code
def yX8_layNow : MethodName := ⟨RX8, "layNow", "()V"⟩
abbrev cX8_work : ByteArray := prog_10_method_28_code
def yX8_work : MethodName := ⟨RX8, "work", "(III)I"⟩
abbrev cX8_day : ByteArray := prog_10_method_29_code
def yX8_day : MethodName := ⟨RX8, "day", "(I)I"⟩
abbrev cX8_salt : ByteArray := prog_10_method_30_code
def yX8_salt : MethodName := ⟨RX8, "salt", "(II)I"⟩
abbrev cX8_hand : ByteArray := prog_10_method_31_code
def yX8_hand : MethodName := ⟨RX8, "hand", "(I)I"⟩
abbrev cX8_undo : ByteArray := prog_10_method_32_code
def yX8_undo : MethodName := ⟨RX8, "undo", "()I"⟩
abbrev cX8_of : ByteArray := prog_10_method_33_code
def yX8_of : MethodName := ⟨RX8, "of", "(II)I"⟩
abbrev cX8_up : ByteArray := prog_10_method_34_code
def yX8_up : MethodName := ⟨RX8, "up", "(II)I"⟩
abbrev cX8_foreign : ByteArray := prog_10_method_35_code
def yX8_foreign : MethodName := ⟨RX8, "foreign", "(II)I"⟩
abbrev cX8_then : ByteArray := prog_10_method_36_code
def yX8_then : MethodName := ⟨RX8, "then", "(III)I"⟩
abbrev cX8_sumOf : ByteArray := prog_10_method_37_code
def yX8_sumOf : MethodName := ⟨RX8, "sumOf", "(I)I"⟩
abbrev cX8_clean : ByteArray := prog_10_method_38_code
def yX8_clean : MethodName := ⟨RX8, "clean", "(I)I"⟩
abbrev cX8_keep : ByteArray := prog_10_method_39_code
def yX8_keep : MethodName := ⟨RX8, "keep", "(I)I"⟩
abbrev cX8_best : ByteArray := prog_10_method_40_code
def yX8_best : MethodName := ⟨RX8, "best", "(I)I"⟩
abbrev cX8_layOrders : ByteArray := prog_10_method_41_code
def yX8_layOrders : MethodName := ⟨RX8, "layOrders", "(I)Z"⟩
abbrev cX8_orders : ByteArray := prog_10_method_42_code
def yX8_orders : MethodName := ⟨RX8, "orders", "(III)I"⟩
abbrev cX8_waits : ByteArray := prog_10_method_43_code
def yX8_waits : MethodName := ⟨RX8, "waits", "(IIII)I"⟩
abbrev cX8_note : ByteArray := prog_10_method_44_code
def yX8_note : MethodName := ⟨RX8, "note", "(IIII)I"⟩
abbrev cX8_came : ByteArray := prog_10_method_45_code
def yX8_came : MethodName := ⟨RX8, "came", "(IIII)I"⟩
abbrev cX8_forget : ByteArray := prog_10_method_46_code
def yX8_forget : MethodName := ⟨RX8, "forget", "(I)I"⟩
abbrev cX8_kindsOf : ByteArray := prog_10_method_47_code
def yX8_kindsOf : MethodName := ⟨RX8, "kindsOf", "(I)I"⟩
abbrev cX8_is : ByteArray := prog_10_method_48_code
def yX8_is : MethodName := ⟨RX8, "is", "(I)I"⟩
abbrev cX8_look : ByteArray := prog_10_method_49_code
def yX8_look : MethodName := ⟨RX8, "look", "(I)I"⟩
abbrev cX8_memory : ByteArray := prog_10_method_50_code
def yX8_memory : MethodName := ⟨RX8, "memory", "(II)I"⟩
abbrev cX8_whose : ByteArray := prog_10_method_51_code
def yX8_whose : MethodName := ⟨RX8, "whose", "(IIII)I"⟩
abbrev cX8_getsBy : ByteArray := prog_10_method_52_code
def yX8_getsBy : MethodName := ⟨RX8, "getsBy", "(III)I"⟩
abbrev cX8_rests : ByteArray := prog_10_method_53_code
def yX8_rests : MethodName := ⟨RX8, "rests", "(IIII)Z"⟩
abbrev cX8_two : ByteArray := prog_10_method_54_code
def yX8_two : MethodName := ⟨RX8, "two", "(III)I"⟩
abbrev cX8_fraction : ByteArray := prog_10_method_55_code
def yX8_fraction : MethodName := ⟨RX8, "fraction", "(JJ)V"⟩
abbrev cX8_frost : ByteArray := prog_10_method_56_code
def yX8_frost : MethodName := ⟨RX8, "frost", "(II)I"⟩
abbrev cX8_streets : ByteArray := prog_10_method_57_code
def yX8_streets : MethodName := ⟨RX8, "streets", "(II)I"⟩
abbrev cX8_type : ByteArray := prog_10_method_58_code
def yX8_type : MethodName := ⟨RX8, "type", "(I)I"⟩
abbrev cX8_clear : ByteArray := prog_10_method_59_code
def yX8_clear : MethodName := ⟨RX8, "clear", "()I"⟩
abbrev cX8_isSmall : ByteArray := prog_10_method_60_code
def yX8_isSmall : MethodName := ⟨RX8, "isSmall", "(I)Z"⟩
abbrev cX8_isFigure : ByteArray := prog_10_method_61_code
def yX8_isFigure : MethodName := ⟨RX8, "isFigure", "(I)Z"⟩
abbrev cX8_lookAt : ByteArray := prog_10_method_62_code
def yX8_lookAt : MethodName := ⟨RX8, "lookAt", "(I)V"⟩
abbrev cX8_goBehind : ByteArray := prog_10_method_63_code
def yX8_goBehind : MethodName := ⟨RX8, "goBehind", "()V"⟩
abbrev cX8_spells : ByteArray := prog_10_method_64_code
def yX8_spells : MethodName := ⟨RX8, "spells", "(IIIIIII)Z"⟩
abbrev cX8_takes : ByteArray := prog_10_method_65_code
def yX8_takes : MethodName := ⟨RX8, "takes", "(III)Z"⟩
abbrev cX8_takesStreet : ByteArray := prog_10_method_66_code
def yX8_takesStreet : MethodName := ⟨RX8, "takesStreet", "()Z"⟩
abbrev cX8_takesAnvil : ByteArray := prog_10_method_67_code
def yX8_takesAnvil : MethodName := ⟨RX8, "takesAnvil", "()Z"⟩
abbrev cX8_takesWork : ByteArray := prog_10_method_68_code
def yX8_takesWork : MethodName := ⟨RX8, "takesWork", "()Z"⟩
abbrev cX8_takesDay : ByteArray := prog_10_method_69_code
def yX8_takesDay : MethodName := ⟨RX8, "takesDay", "()Z"⟩
abbrev cX8_takesItem : ByteArray := prog_10_method_70_code
def yX8_takesItem : MethodName := ⟨RX8, "takesItem", "()Z"⟩
abbrev cX8_read : ByteArray := prog_10_method_71_code
def yX8_read : MethodName := ⟨RX8, "read", "()I"⟩
abbrev cX8_part : ByteArray := prog_10_method_72_code
def yX8_part : MethodName := ⟨RX8, "part", "(I)J"⟩
abbrev cX8_image : ByteArray := prog_10_method_73_code
def yX8_image : MethodName := ⟨RX8, "image", "(I)I"⟩
abbrev cX8_from : ByteArray := prog_10_method_74_code
def yX8_from : MethodName := ⟨RX8, "from", "(I)I"⟩
abbrev cX8_status : ByteArray := prog_10_method_75_code
def yX8_status : MethodName := ⟨RX8, "status", "(I)I"⟩
abbrev cX8_counted : ByteArray := prog_10_method_76_code
def yX8_counted : MethodName := ⟨RX8, "counted", "(I)I"⟩
abbrev cX8_count : ByteArray := prog_10_method_77_code
def yX8_count : MethodName := ⟨RX8, "count", "(I)I"⟩
abbrev cX8_sums : ByteArray := prog_10_method_78_code
def yX8_sums : MethodName := ⟨RX8, "sums", "(JII)J"⟩
abbrev cX8_digest : ByteArray := prog_10_method_79_code
def yX8_digest : MethodName := ⟨RX8, "digest", "()J"⟩
def RJ9 : String := "java/lang/Math"
abbrev cJ9_max_7cf53 : ByteArray := prog_11_method_65_code
def yJ9_max_7cf53 : MethodName := ⟨RJ9, "max", "(II)I"⟩
abbrev cJ9_min_7cf53 : ByteArray := prog_11_method_69_code
def yJ9_min_7cf53 : MethodName := ⟨RJ9, "min", "(II)I"⟩
def RJ0 : String := "java/lang/String"
abbrev cJ0_length_8abf5 : ByteArray := prog_12_method_54_code
def yJ0_length_8abf5 : MethodName := ⟨RJ0, "length", "()I"⟩
abbrev cJ0_charAt_5068e : ByteArray := prog_12_method_56_code
def yJ0_charAt_5068e : MethodName := ⟨RJ0, "charAt", "(I)C"⟩
abbrev cJ0_coder_7d493 : ByteArray := prog_12_method_152_code
def yJ0_coder_7d493 : MethodName := ⟨RJ0, "coder", "()B"⟩
abbrev cJ0_isLatin1_aae02 : ByteArray := prog_12_method_154_code
def yJ0_isLatin1_aae02 : MethodName := ⟨RJ0, "isLatin1", "()Z"⟩
abbrev cJ0_checkIndex_df160 : ByteArray := prog_12_method_155_code
def yJ0_checkIndex_df160 : MethodName := ⟨RJ0, "checkIndex", "(II)V"⟩
def RJ1 : String := "java/lang/StringLatin1"
abbrev cJ1_charAt_3b067 : ByteArray := prog_13_method_2_code
def yJ1_charAt_3b067 : MethodName := ⟨RJ1, "charAt", "([BI)C"⟩
def RJ2 : String := "java/lang/StringUTF16"
abbrev cJ2_getChar_3b067 : ByteArray := prog_14_method_5_code
def yJ2_getChar_3b067 : MethodName := ⟨RJ2, "getChar", "([BI)C"⟩
abbrev cJ2_length_9d52b : ByteArray := prog_14_method_6_code
def yJ2_length_9d52b : MethodName := ⟨RJ2, "length", "([B)I"⟩
abbrev cJ2_charAt_3b067 : ByteArray := prog_14_method_83_code
def yJ2_charAt_3b067 : MethodName := ⟨RJ2, "charAt", "([BI)C"⟩
abbrev cJ2_checkIndex_2214a : ByteArray := prog_14_method_91_code
def yJ2_checkIndex_2214a : MethodName := ⟨RJ2, "checkIndex", "(I[B)V"⟩
def RJ10 : String := "java/lang/System"
def RJ3 : String := "jdk/internal/util/Preconditions"
abbrev cJ3_checkIndex_8e157 : ByteArray := prog_16_method_11_code
def yJ3_checkIndex_8e157 : MethodName := ⟨RJ3, "checkIndex", "(IILjava/util/function/BiFunction;)I"⟩
def RL : String := "AnvilStreetLaw"
abbrev cL_law : ByteArray := code
def yL_law : MethodName := ⟨RL, "law", "([I)Z"⟩
abbrev vwCl : List vw_C := [(RX1, TX1, 3), (RX2, TX2, 4), (RX3, TX3, 6), (RX4, TX4, 2), (RX5, TX5, 8), (RX6, TX6, 8), (RX7, TX7, 12), (RX8, TX8, 20)]
