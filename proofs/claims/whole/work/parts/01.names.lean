-- ===== PART A: goes FIRST, ahead of the names: the tables' words, and 'selects' of the private methods out of them =====
/-- a private method of a class that the tables say can be made, by its rows of tables_1 -/
def lw_okq (q : MethodName × Nat) : Prop := (q.1.cls ≠ "java/lang/invoke/MethodHandle" ∧ q.1.cls ≠ "java/lang/invoke/VarHandle") ∧ Cond.instantiable q.1.cls q.2 ∈ tables_1 ∧ Cond.privateMethod q.1 ∈ tables_1 ∧ Cond.instanceMethod q.1 ∈ tables_1
theorem lw_p0 : lw_okq (⟨"LightAsFarAsThePump", "refuse", "(I)I"⟩, 11) := ⟨⟨by decide +kernel, by decide +kernel⟩, List.mem_of_getElem? (i := 16) (by decide +kernel), List.mem_of_getElem? (i := 238) (by decide +kernel), List.mem_of_getElem? (i := 239) (by decide +kernel)⟩
theorem lw_p1 : lw_okq (⟨"LightAsFarAsThePump$Letters", "firstOutOfPlace", "()I"⟩, 2) := ⟨⟨by decide +kernel, by decide +kernel⟩, List.mem_of_getElem? (i := 74) (by decide +kernel), List.mem_of_getElem? (i := 266) (by decide +kernel), List.mem_of_getElem? (i := 267) (by decide +kernel)⟩
theorem lw_p2 : lw_okq (⟨"LightAsFarAsThePump$Letters", "tellStatement", "(LLightAsFarAsThePump$Alley;I)Z"⟩, 2) := ⟨⟨by decide +kernel, by decide +kernel⟩, List.mem_of_getElem? (i := 74) (by decide +kernel), List.mem_of_getElem? (i := 280) (by decide +kernel), List.mem_of_getElem? (i := 281) (by decide +kernel)⟩
theorem lw_p3 : lw_okq (⟨"LightAsFarAsThePump$Letters", "number", "(II)I"⟩, 2) := ⟨⟨by decide +kernel, by decide +kernel⟩, List.mem_of_getElem? (i := 74) (by decide +kernel), List.mem_of_getElem? (i := 284) (by decide +kernel), List.mem_of_getElem? (i := 285) (by decide +kernel)⟩
theorem lw_p4 : lw_okq (⟨"LightAsFarAsThePump$Walk", "begin", "(LLightAsFarAsThePump$Alley;)V"⟩, 17) := ⟨⟨by decide +kernel, by decide +kernel⟩, List.mem_of_getElem? (i := 88) (by decide +kernel), List.mem_of_getElem? (i := 353) (by decide +kernel), List.mem_of_getElem? (i := 354) (by decide +kernel)⟩
theorem lw_p5 : lw_okq (⟨"LightAsFarAsThePump$Walk", "addLamp", "(II)V"⟩, 17) := ⟨⟨by decide +kernel, by decide +kernel⟩, List.mem_of_getElem? (i := 88) (by decide +kernel), List.mem_of_getElem? (i := 365) (by decide +kernel), List.mem_of_getElem? (i := 366) (by decide +kernel)⟩
theorem lw_p6 : lw_okq (⟨"LightAsFarAsThePump$Walk", "go", "(LLightAsFarAsThePump$Alley;I)V"⟩, 17) := ⟨⟨by decide +kernel, by decide +kernel⟩, List.mem_of_getElem? (i := 88) (by decide +kernel), List.mem_of_getElem? (i := 371) (by decide +kernel), List.mem_of_getElem? (i := 372) (by decide +kernel)⟩
theorem lw_p7 : lw_okq (⟨"LightAsFarAsThePump$Walk", "lampThatHeHas", "(LLightAsFarAsThePump$Alley;I)I"⟩, 17) := ⟨⟨by decide +kernel, by decide +kernel⟩, List.mem_of_getElem? (i := 88) (by decide +kernel), List.mem_of_getElem? (i := 379) (by decide +kernel), List.mem_of_getElem? (i := 380) (by decide +kernel)⟩
theorem lw_p8 : lw_okq (⟨"LightAsFarAsThePump$Walk", "goInTheDark", "(LLightAsFarAsThePump$Alley;I)V"⟩, 17) := ⟨⟨by decide +kernel, by decide +kernel⟩, List.mem_of_getElem? (i := 88) (by decide +kernel), List.mem_of_getElem? (i := 387) (by decide +kernel), List.mem_of_getElem? (i := 388) (by decide +kernel)⟩
theorem lw_p9 : lw_okq (⟨"LightAsFarAsThePump$Walk", "goWithLamp", "(LLightAsFarAsThePump$Alley;II)V"⟩, 17) := ⟨⟨by decide +kernel, by decide +kernel⟩, List.mem_of_getElem? (i := 88) (by decide +kernel), List.mem_of_getElem? (i := 396) (by decide +kernel), List.mem_of_getElem? (i := 397) (by decide +kernel)⟩
theorem lw_p10 : lw_okq (⟨"LightAsFarAsThePump$Orders", "next", "(I)Z"⟩, 4) := ⟨⟨by decide +kernel, by decide +kernel⟩, List.mem_of_getElem? (i := 161) (by decide +kernel), List.mem_of_getElem? (i := 449) (by decide +kernel), List.mem_of_getElem? (i := 450) (by decide +kernel)⟩
theorem lw_p11 : lw_okq (⟨"LightAsFarAsThePump", "refuseAmongAll", "(I)I"⟩, 11) := ⟨⟨by decide +kernel, by decide +kernel⟩, List.mem_of_getElem? (i := 16) (by decide +kernel), List.mem_of_getElem? (i := 468) (by decide +kernel), List.mem_of_getElem? (i := 469) (by decide +kernel)⟩
theorem lw_p12 : lw_okq (⟨"LightAsFarAsThePump$Debts", "joinUp", "(II)V"⟩, 3) := ⟨⟨by decide +kernel, by decide +kernel⟩, List.mem_of_getElem? (i := 183) (by decide +kernel), List.mem_of_getElem? (i := 512) (by decide +kernel), List.mem_of_getElem? (i := 513) (by decide +kernel)⟩
theorem lw_p13 : lw_okq (⟨"LightAsFarAsThePump", "valuesThatFitTheRow", "([III)I"⟩, 11) := ⟨⟨by decide +kernel, by decide +kernel⟩, List.mem_of_getElem? (i := 16) (by decide +kernel), List.mem_of_getElem? (i := 537) (by decide +kernel), List.mem_of_getElem? (i := 538) (by decide +kernel)⟩
theorem lw_p14 : lw_okq (⟨"LightAsFarAsThePump", "firstNotSo", "()I"⟩, 11) := ⟨⟨by decide +kernel, by decide +kernel⟩, List.mem_of_getElem? (i := 16) (by decide +kernel), List.mem_of_getElem? (i := 541) (by decide +kernel), List.mem_of_getElem? (i := 542) (by decide +kernel)⟩
theorem lw_p15 : lw_okq (⟨"LightAsFarAsThePumpModel", "no", "(I)I"⟩, 31) := ⟨⟨by decide +kernel, by decide +kernel⟩, List.mem_of_getElem? (i := 592) (by decide +kernel), List.mem_of_getElem? (i := 696) (by decide +kernel), List.mem_of_getElem? (i := 697) (by decide +kernel)⟩
def lw_privs_1 : List (MethodName × Nat) := [(⟨"LightAsFarAsThePump", "refuse", "(I)I"⟩, 11), (⟨"LightAsFarAsThePump$Letters", "firstOutOfPlace", "()I"⟩, 2), (⟨"LightAsFarAsThePump$Letters", "tellStatement", "(LLightAsFarAsThePump$Alley;I)Z"⟩, 2), (⟨"LightAsFarAsThePump$Letters", "number", "(II)I"⟩, 2), (⟨"LightAsFarAsThePump$Walk", "begin", "(LLightAsFarAsThePump$Alley;)V"⟩, 17), (⟨"LightAsFarAsThePump$Walk", "addLamp", "(II)V"⟩, 17), (⟨"LightAsFarAsThePump$Walk", "go", "(LLightAsFarAsThePump$Alley;I)V"⟩, 17), (⟨"LightAsFarAsThePump$Walk", "lampThatHeHas", "(LLightAsFarAsThePump$Alley;I)I"⟩, 17), (⟨"LightAsFarAsThePump$Walk", "goInTheDark", "(LLightAsFarAsThePump$Alley;I)V"⟩, 17), (⟨"LightAsFarAsThePump$Walk", "goWithLamp", "(LLightAsFarAsThePump$Alley;II)V"⟩, 17), (⟨"LightAsFarAsThePump$Orders", "next", "(I)Z"⟩, 4), (⟨"LightAsFarAsThePump", "refuseAmongAll", "(I)I"⟩, 11), (⟨"LightAsFarAsThePump$Debts", "joinUp", "(II)V"⟩, 3), (⟨"LightAsFarAsThePump", "valuesThatFitTheRow", "([III)I"⟩, 11), (⟨"LightAsFarAsThePump", "firstNotSo", "()I"⟩, 11), (⟨"LightAsFarAsThePumpModel", "no", "(I)I"⟩, 31)]
theorem lw_r1 : ∀ q ∈ lw_privs_1, lw_okq q := List.forall_mem_cons.mpr ⟨lw_p0, List.forall_mem_cons.mpr ⟨lw_p1, List.forall_mem_cons.mpr ⟨lw_p2, List.forall_mem_cons.mpr ⟨lw_p3, List.forall_mem_cons.mpr ⟨lw_p4, List.forall_mem_cons.mpr ⟨lw_p5, List.forall_mem_cons.mpr ⟨lw_p6, List.forall_mem_cons.mpr ⟨lw_p7, List.forall_mem_cons.mpr ⟨lw_p8, List.forall_mem_cons.mpr ⟨lw_p9, List.forall_mem_cons.mpr ⟨lw_p10, List.forall_mem_cons.mpr ⟨lw_p11, List.forall_mem_cons.mpr ⟨lw_p12, List.forall_mem_cons.mpr ⟨lw_p13, List.forall_mem_cons.mpr ⟨lw_p14, List.forall_mem_cons.mpr ⟨lw_p15, fun _ h => absurd h List.not_mem_nil⟩⟩⟩⟩⟩⟩⟩⟩⟩⟩⟩⟩⟩⟩⟩⟩
theorem lw_p16 : lw_okq (⟨"LightAsFarAsThePumpModel", "statement", "(Z)I"⟩, 31) := ⟨⟨by decide +kernel, by decide +kernel⟩, List.mem_of_getElem? (i := 592) (by decide +kernel), List.mem_of_getElem? (i := 704) (by decide +kernel), List.mem_of_getElem? (i := 705) (by decide +kernel)⟩
theorem lw_p17 : lw_okq (⟨"LightAsFarAsThePumpModel", "is", "(I)Z"⟩, 31) := ⟨⟨by decide +kernel, by decide +kernel⟩, List.mem_of_getElem? (i := 592) (by decide +kernel), List.mem_of_getElem? (i := 708) (by decide +kernel), List.mem_of_getElem? (i := 709) (by decide +kernel)⟩
theorem lw_p18 : lw_okq (⟨"LightAsFarAsThePumpModel", "digits", "(I)Z"⟩, 31) := ⟨⟨by decide +kernel, by decide +kernel⟩, List.mem_of_getElem? (i := 592) (by decide +kernel), List.mem_of_getElem? (i := 795) (by decide +kernel), List.mem_of_getElem? (i := 796) (by decide +kernel)⟩
theorem lw_p19 : lw_okq (⟨"LightAsFarAsThePumpModel", "two", "(I)I"⟩, 31) := ⟨⟨by decide +kernel, by decide +kernel⟩, List.mem_of_getElem? (i := 592) (by decide +kernel), List.mem_of_getElem? (i := 799) (by decide +kernel), List.mem_of_getElem? (i := 800) (by decide +kernel)⟩
theorem lw_p20 : lw_okq (⟨"LightAsFarAsThePumpModel", "isGoer", "(I)Z"⟩, 31) := ⟨⟨by decide +kernel, by decide +kernel⟩, List.mem_of_getElem? (i := 592) (by decide +kernel), List.mem_of_getElem? (i := 812) (by decide +kernel), List.mem_of_getElem? (i := 813) (by decide +kernel)⟩
theorem lw_p21 : lw_okq (⟨"LightAsFarAsThePumpModel", "keep", "([I)V"⟩, 31) := ⟨⟨by decide +kernel, by decide +kernel⟩, List.mem_of_getElem? (i := 592) (by decide +kernel), List.mem_of_getElem? (i := 816) (by decide +kernel), List.mem_of_getElem? (i := 817) (by decide +kernel)⟩
theorem lw_p22 : lw_okq (⟨"LightAsFarAsThePumpModel", "again", "([I)V"⟩, 31) := ⟨⟨by decide +kernel, by decide +kernel⟩, List.mem_of_getElem? (i := 592) (by decide +kernel), List.mem_of_getElem? (i := 820) (by decide +kernel), List.mem_of_getElem? (i := 821) (by decide +kernel)⟩
theorem lw_p23 : lw_okq (⟨"LightAsFarAsThePumpModel", "fetches", "(I)I"⟩, 31) := ⟨⟨by decide +kernel, by decide +kernel⟩, List.mem_of_getElem? (i := 592) (by decide +kernel), List.mem_of_getElem? (i := 829) (by decide +kernel), List.mem_of_getElem? (i := 830) (by decide +kernel)⟩
theorem lw_p24 : lw_okq (⟨"LightAsFarAsThePumpModel", "costs", "(I)I"⟩, 31) := ⟨⟨by decide +kernel, by decide +kernel⟩, List.mem_of_getElem? (i := 592) (by decide +kernel), List.mem_of_getElem? (i := 833) (by decide +kernel), List.mem_of_getElem? (i := 834) (by decide +kernel)⟩
theorem lw_p25 : lw_okq (⟨"LightAsFarAsThePumpModel", "run", "()V"⟩, 31) := ⟨⟨by decide +kernel, by decide +kernel⟩, List.mem_of_getElem? (i := 592) (by decide +kernel), List.mem_of_getElem? (i := 852) (by decide +kernel), List.mem_of_getElem? (i := 853) (by decide +kernel)⟩
theorem lw_p26 : lw_okq (⟨"LightAsFarAsThePumpModel", "run", "(II)V"⟩, 31) := ⟨⟨by decide +kernel, by decide +kernel⟩, List.mem_of_getElem? (i := 592) (by decide +kernel), List.mem_of_getElem? (i := 856) (by decide +kernel), List.mem_of_getElem? (i := 857) (by decide +kernel)⟩
theorem lw_p27 : lw_okq (⟨"LightAsFarAsThePumpModel", "sets", "(I)V"⟩, 31) := ⟨⟨by decide +kernel, by decide +kernel⟩, List.mem_of_getElem? (i := 592) (by decide +kernel), List.mem_of_getElem? (i := 860) (by decide +kernel), List.mem_of_getElem? (i := 861) (by decide +kernel)⟩
theorem lw_p28 : lw_okq (⟨"LightAsFarAsThePumpModel", "goes", "(I)V"⟩, 31) := ⟨⟨by decide +kernel, by decide +kernel⟩, List.mem_of_getElem? (i := 592) (by decide +kernel), List.mem_of_getElem? (i := 864) (by decide +kernel), List.mem_of_getElem? (i := 865) (by decide +kernel)⟩
theorem lw_p29 : lw_okq (⟨"LightAsFarAsThePumpModel", "nearer", "(I)I"⟩, 31) := ⟨⟨by decide +kernel, by decide +kernel⟩, List.mem_of_getElem? (i := 592) (by decide +kernel), List.mem_of_getElem? (i := 868) (by decide +kernel), List.mem_of_getElem? (i := 869) (by decide +kernel)⟩
theorem lw_p30 : lw_okq (⟨"LightAsFarAsThePumpModel", "walksDark", "(III)V"⟩, 31) := ⟨⟨by decide +kernel, by decide +kernel⟩, List.mem_of_getElem? (i := 592) (by decide +kernel), List.mem_of_getElem? (i := 873) (by decide +kernel), List.mem_of_getElem? (i := 874) (by decide +kernel)⟩
theorem lw_p31 : lw_okq (⟨"LightAsFarAsThePumpModel", "carriedTo", "(II)I"⟩, 31) := ⟨⟨by decide +kernel, by decide +kernel⟩, List.mem_of_getElem? (i := 592) (by decide +kernel), List.mem_of_getElem? (i := 877) (by decide +kernel), List.mem_of_getElem? (i := 878) (by decide +kernel)⟩
def lw_privs_2 : List (MethodName × Nat) := [(⟨"LightAsFarAsThePumpModel", "statement", "(Z)I"⟩, 31), (⟨"LightAsFarAsThePumpModel", "is", "(I)Z"⟩, 31), (⟨"LightAsFarAsThePumpModel", "digits", "(I)Z"⟩, 31), (⟨"LightAsFarAsThePumpModel", "two", "(I)I"⟩, 31), (⟨"LightAsFarAsThePumpModel", "isGoer", "(I)Z"⟩, 31), (⟨"LightAsFarAsThePumpModel", "keep", "([I)V"⟩, 31), (⟨"LightAsFarAsThePumpModel", "again", "([I)V"⟩, 31), (⟨"LightAsFarAsThePumpModel", "fetches", "(I)I"⟩, 31), (⟨"LightAsFarAsThePumpModel", "costs", "(I)I"⟩, 31), (⟨"LightAsFarAsThePumpModel", "run", "()V"⟩, 31), (⟨"LightAsFarAsThePumpModel", "run", "(II)V"⟩, 31), (⟨"LightAsFarAsThePumpModel", "sets", "(I)V"⟩, 31), (⟨"LightAsFarAsThePumpModel", "goes", "(I)V"⟩, 31), (⟨"LightAsFarAsThePumpModel", "nearer", "(I)I"⟩, 31), (⟨"LightAsFarAsThePumpModel", "walksDark", "(III)V"⟩, 31), (⟨"LightAsFarAsThePumpModel", "carriedTo", "(II)I"⟩, 31)]
theorem lw_r2 : ∀ q ∈ lw_privs_2, lw_okq q := List.forall_mem_cons.mpr ⟨lw_p16, List.forall_mem_cons.mpr ⟨lw_p17, List.forall_mem_cons.mpr ⟨lw_p18, List.forall_mem_cons.mpr ⟨lw_p19, List.forall_mem_cons.mpr ⟨lw_p20, List.forall_mem_cons.mpr ⟨lw_p21, List.forall_mem_cons.mpr ⟨lw_p22, List.forall_mem_cons.mpr ⟨lw_p23, List.forall_mem_cons.mpr ⟨lw_p24, List.forall_mem_cons.mpr ⟨lw_p25, List.forall_mem_cons.mpr ⟨lw_p26, List.forall_mem_cons.mpr ⟨lw_p27, List.forall_mem_cons.mpr ⟨lw_p28, List.forall_mem_cons.mpr ⟨lw_p29, List.forall_mem_cons.mpr ⟨lw_p30, List.forall_mem_cons.mpr ⟨lw_p31, fun _ h => absurd h List.not_mem_nil⟩⟩⟩⟩⟩⟩⟩⟩⟩⟩⟩⟩⟩⟩⟩⟩
theorem lw_p32 : lw_okq (⟨"LightAsFarAsThePumpModel", "carries", "(III)V"⟩, 31) := ⟨⟨by decide +kernel, by decide +kernel⟩, List.mem_of_getElem? (i := 592) (by decide +kernel), List.mem_of_getElem? (i := 881) (by decide +kernel), List.mem_of_getElem? (i := 882) (by decide +kernel)⟩
theorem lw_p33 : lw_okq (⟨"LightAsFarAsThePumpModel", "cost", "()I"⟩, 31) := ⟨⟨by decide +kernel, by decide +kernel⟩, List.mem_of_getElem? (i := 592) (by decide +kernel), List.mem_of_getElem? (i := 886) (by decide +kernel), List.mem_of_getElem? (i := 887) (by decide +kernel)⟩
theorem lw_p34 : lw_okq (⟨"LightAsFarAsThePumpModel", "nextOrder", "()Z"⟩, 31) := ⟨⟨by decide +kernel, by decide +kernel⟩, List.mem_of_getElem? (i := 592) (by decide +kernel), List.mem_of_getElem? (i := 902) (by decide +kernel), List.mem_of_getElem? (i := 903) (by decide +kernel)⟩
theorem lw_p35 : lw_okq (⟨"LightAsFarAsThePumpModel", "swap", "(II)V"⟩, 31) := ⟨⟨by decide +kernel, by decide +kernel⟩, List.mem_of_getElem? (i := 592) (by decide +kernel), List.mem_of_getElem? (i := 906) (by decide +kernel), List.mem_of_getElem? (i := 907) (by decide +kernel)⟩
theorem lw_p36 : lw_okq (⟨"LightAsFarAsThePumpModel", "costNow", "()I"⟩, 31) := ⟨⟨by decide +kernel, by decide +kernel⟩, List.mem_of_getElem? (i := 592) (by decide +kernel), List.mem_of_getElem? (i := 914) (by decide +kernel), List.mem_of_getElem? (i := 915) (by decide +kernel)⟩
theorem lw_p37 : lw_okq (⟨"LightAsFarAsThePumpModel", "noMuch", "(I)I"⟩, 31) := ⟨⟨by decide +kernel, by decide +kernel⟩, List.mem_of_getElem? (i := 592) (by decide +kernel), List.mem_of_getElem? (i := 926) (by decide +kernel), List.mem_of_getElem? (i := 927) (by decide +kernel)⟩
theorem lw_p38 : lw_okq (⟨"LightAsFarAsThePumpModel", "secondAt", "(I)I"⟩, 31) := ⟨⟨by decide +kernel, by decide +kernel⟩, List.mem_of_getElem? (i := 592) (by decide +kernel), List.mem_of_getElem? (i := 935) (by decide +kernel), List.mem_of_getElem? (i := 936) (by decide +kernel)⟩
theorem lw_p39 : lw_okq (⟨"LightAsFarAsThePumpModel", "owe", "()V"⟩, 31) := ⟨⟨by decide +kernel, by decide +kernel⟩, List.mem_of_getElem? (i := 592) (by decide +kernel), List.mem_of_getElem? (i := 947) (by decide +kernel), List.mem_of_getElem? (i := 948) (by decide +kernel)⟩
theorem lw_p40 : lw_okq (⟨"LightAsFarAsThePumpModel", "wrong", "()I"⟩, 31) := ⟨⟨by decide +kernel, by decide +kernel⟩, List.mem_of_getElem? (i := 592) (by decide +kernel), List.mem_of_getElem? (i := 972) (by decide +kernel), List.mem_of_getElem? (i := 973) (by decide +kernel)⟩
def lw_privs_3 : List (MethodName × Nat) := [(⟨"LightAsFarAsThePumpModel", "carries", "(III)V"⟩, 31), (⟨"LightAsFarAsThePumpModel", "cost", "()I"⟩, 31), (⟨"LightAsFarAsThePumpModel", "nextOrder", "()Z"⟩, 31), (⟨"LightAsFarAsThePumpModel", "swap", "(II)V"⟩, 31), (⟨"LightAsFarAsThePumpModel", "costNow", "()I"⟩, 31), (⟨"LightAsFarAsThePumpModel", "noMuch", "(I)I"⟩, 31), (⟨"LightAsFarAsThePumpModel", "secondAt", "(I)I"⟩, 31), (⟨"LightAsFarAsThePumpModel", "owe", "()V"⟩, 31), (⟨"LightAsFarAsThePumpModel", "wrong", "()I"⟩, 31)]
theorem lw_r3 : ∀ q ∈ lw_privs_3, lw_okq q := List.forall_mem_cons.mpr ⟨lw_p32, List.forall_mem_cons.mpr ⟨lw_p33, List.forall_mem_cons.mpr ⟨lw_p34, List.forall_mem_cons.mpr ⟨lw_p35, List.forall_mem_cons.mpr ⟨lw_p36, List.forall_mem_cons.mpr ⟨lw_p37, List.forall_mem_cons.mpr ⟨lw_p38, List.forall_mem_cons.mpr ⟨lw_p39, List.forall_mem_cons.mpr ⟨lw_p40, fun _ h => absurd h List.not_mem_nil⟩⟩⟩⟩⟩⟩⟩⟩⟩
def lw_privs : List (MethodName × Nat) := lw_privs_1 ++ (lw_privs_2 ++ (lw_privs_3))
def lw_tbl : List Cond := k2_sels lw_privs ++ tables_1
theorem lw_privs_ok : ∀ q ∈ lw_privs, lw_okq q := by
  show ∀ q ∈ lw_privs_1 ++ (lw_privs_2 ++ (lw_privs_3)), lw_okq q
  exact List.forall_mem_append.mpr ⟨lw_r1, List.forall_mem_append.mpr ⟨lw_r2, lw_r3⟩⟩

def RX0 : String := "LightAsFarAsThePump$Alley"
def TX0 : u_T := fun k => match k with
  | 0 => ("LightAsFarAsThePump$Alley", "setting", "[I", true)
  | 1 => ("LightAsFarAsThePump$Alley", "kind", "[I", true)
  | 2 => ("LightAsFarAsThePump$Alley", "figure", "[I", true)
  | 3 => ("LightAsFarAsThePump$Alley", "from", "[I", true)
  | 4 => ("LightAsFarAsThePump$Alley", "to", "[I", true)
  | 5 => ("LightAsFarAsThePump$Alley", "hour", "[I", true)
  | 6 => ("LightAsFarAsThePump$Alley", "size", "I", false)
  | _ => ("LightAsFarAsThePump$Alley", "secondLamp", "I", false)
def tyX0 : Nat → FieldType := fun k => match k with
  | 0 => .array .int
  | 1 => .array .int
  | 2 => .array .int
  | 3 => .array .int
  | 4 => .array .int
  | 5 => .array .int
  | 6 => .int
  | _ => .int
abbrev wsX00 : List Cond := u_ws RX0 TX0 8
theorem nmX0 : ∀ a, a < 8 → ∀ b, b < 8 → a ≠ b → (TX0 a).2.1 ≠ (TX0 b).2.1 := by decide +kernel
theorem tyX0_ok : ∀ k, k < 8 → parseFieldDescriptor (TX0 k).2.2.1 = some (tyX0 k) := by decide +kernel
abbrev cX0_init : ByteArray := prog_2_method_1_code
def yX0_init : MethodName := ⟨RX0, "<init>", "()V"⟩
abbrev cX0_becomeLike : ByteArray := prog_2_method_2_code
def yX0_becomeLike : MethodName := ⟨RX0, "becomeLike", "(LLightAsFarAsThePump$Alley;)V"⟩
abbrev cX0_pump : ByteArray := prog_2_method_3_code
def yX0_pump : MethodName := ⟨RX0, "pump", "()I"⟩
abbrev cX0_oil : ByteArray := prog_2_method_4_code
def yX0_oil : MethodName := ⟨RX0, "oil", "()I"⟩
abbrev cX0_dark : ByteArray := prog_2_method_5_code
def yX0_dark : MethodName := ⟨RX0, "dark", "()I"⟩
abbrev cX0_knows : ByteArray := prog_2_method_6_code
def yX0_knows : MethodName := ⟨RX0, "knows", "(I)Z"⟩
abbrev cX0_settle : ByteArray := prog_2_method_7_code
def yX0_settle : MethodName := ⟨RX0, "settle", "(II)Z"⟩
abbrev cX0_add : ByteArray := prog_2_method_8_code
def yX0_add : MethodName := ⟨RX0, "add", "(IIIII)Z"⟩
abbrev cX0_exchangeHours : ByteArray := prog_2_method_9_code
def yX0_exchangeHours : MethodName := ⟨RX0, "exchangeHours", "(II)Z"⟩
abbrev cX0_changeHour : ByteArray := prog_2_method_10_code
def yX0_changeHour : MethodName := ⟨RX0, "changeHour", "(II)Z"⟩
abbrev cX0_sendHome : ByteArray := prog_2_method_11_code
def yX0_sendHome : MethodName := ⟨RX0, "sendHome", "(I)V"⟩
abbrev cX0_drawHours : ByteArray := prog_2_method_12_code
def yX0_drawHours : MethodName := ⟨RX0, "drawHours", "(I)I"⟩
abbrev cX0_stepsOf : ByteArray := prog_2_method_13_code
def yX0_stepsOf : MethodName := ⟨RX0, "stepsOf", "(I)I"⟩
abbrev cX0_allSteps : ByteArray := prog_2_method_14_code
def yX0_allSteps : MethodName := ⟨RX0, "allSteps", "()I"⟩
abbrev cX0_anybodyWithin : ByteArray := prog_2_method_15_code
def yX0_anybodyWithin : MethodName := ⟨RX0, "anybodyWithin", "(II)Z"⟩
abbrev cX0_fetches : ByteArray := prog_2_method_16_code
def yX0_fetches : MethodName := ⟨RX0, "fetches", "(I)I"⟩
abbrev cX0_darkStepCosts : ByteArray := prog_2_method_17_code
def yX0_darkStepCosts : MethodName := ⟨RX0, "darkStepCosts", "(I)I"⟩
abbrev cX0_carriesTo : ByteArray := prog_2_method_18_code
def yX0_carriesTo : MethodName := ⟨RX0, "carriesTo", "(II)I"⟩
abbrev cX0_bringsTo : ByteArray := prog_2_method_19_code
def yX0_bringsTo : MethodName := ⟨RX0, "bringsTo", "(II)I"⟩
def RX1 : String := "LightAsFarAsThePump$Debts"
def TX1 : u_T := fun k => match k with
  | 0 => ("LightAsFarAsThePump$Debts", "net", "[I", true)
  | 1 => ("LightAsFarAsThePump$Debts", "sum", "[I", true)
  | _ => ("LightAsFarAsThePump$Debts", "groups", "[I", true)
def tyX1 : Nat → FieldType := fun k => match k with
  | 0 => .array .int
  | 1 => .array .int
  | _ => .array .int
abbrev wsX10 : List Cond := u_ws RX1 TX1 3
theorem nmX1 : ∀ a, a < 3 → ∀ b, b < 3 → a ≠ b → (TX1 a).2.1 ≠ (TX1 b).2.1 := by decide +kernel
theorem tyX1_ok : ∀ k, k < 3 → parseFieldDescriptor (TX1 k).2.2.1 = some (tyX1 k) := by decide +kernel
abbrev cX1_init : ByteArray := prog_3_method_1_code
def yX1_init : MethodName := ⟨RX1, "<init>", "()V"⟩
abbrev cX1_reckon : ByteArray := prog_3_method_2_code
def yX1_reckon : MethodName := ⟨RX1, "reckon", "(LLightAsFarAsThePump$Alley;LLightAsFarAsThePump$Walk;)V"⟩
abbrev cX1_stepsFarther : ByteArray := prog_3_method_3_code
def yX1_stepsFarther : MethodName := ⟨RX1, "stepsFarther", "(LLightAsFarAsThePump$Alley;II)I"⟩
abbrev cX1_fewestPayments : ByteArray := prog_3_method_4_code
def yX1_fewestPayments : MethodName := ⟨RX1, "fewestPayments", "(I)I"⟩
abbrev cX1_joinUp : ByteArray := prog_3_method_5_code
def yX1_joinUp : MethodName := ⟨RX1, "joinUp", "(II)V"⟩
def RX2 : String := "LightAsFarAsThePump$Letters"
def TX2 : u_T := fun k => match k with
  | 0 => ("LightAsFarAsThePump$Letters", "letter", "[I", true)
  | _ => ("LightAsFarAsThePump$Letters", "size", "I", false)
def tyX2 : Nat → FieldType := fun k => match k with
  | 0 => .array .int
  | _ => .int
abbrev wsX20 : List Cond := u_ws RX2 TX2 2
theorem nmX2 : ∀ a, a < 2 → ∀ b, b < 2 → a ≠ b → (TX2 a).2.1 ≠ (TX2 b).2.1 := by decide +kernel
theorem tyX2_ok : ∀ k, k < 2 → parseFieldDescriptor (TX2 k).2.2.1 = some (tyX2 k) := by decide +kernel
abbrev cX2_init : ByteArray := prog_4_method_1_code
def yX2_init : MethodName := ⟨RX2, "<init>", "()V"⟩
abbrev cX2_add : ByteArray := prog_4_method_2_code
def yX2_add : MethodName := ⟨RX2, "add", "(I)V"⟩
abbrev cX2_tellTo : ByteArray := prog_4_method_3_code
def yX2_tellTo : MethodName := ⟨RX2, "tellTo", "(LLightAsFarAsThePump$Alley;)I"⟩
abbrev cX2_firstOutOfPlace : ByteArray := prog_4_method_4_code
def yX2_firstOutOfPlace : MethodName := ⟨RX2, "firstOutOfPlace", "()I"⟩
abbrev cX2_tellStatement : ByteArray := prog_4_method_5_code
def yX2_tellStatement : MethodName := ⟨RX2, "tellStatement", "(LLightAsFarAsThePump$Alley;I)Z"⟩
abbrev cX2_number : ByteArray := prog_4_method_6_code
def yX2_number : MethodName := ⟨RX2, "number", "(II)I"⟩
abbrev cX2_digitsOf : ByteArray := prog_4_method_7_code
def yX2_digitsOf : MethodName := ⟨RX2, "digitsOf", "(I)I"⟩
abbrev cX2_lengthOf : ByteArray := prog_4_method_8_code
def yX2_lengthOf : MethodName := ⟨RX2, "lengthOf", "(I)I"⟩
abbrev cX2_kindOf : ByteArray := prog_4_method_9_code
def yX2_kindOf : MethodName := ⟨RX2, "kindOf", "(I)I"⟩
abbrev cX2_isDigit : ByteArray := prog_4_method_10_code
def yX2_isDigit : MethodName := ⟨RX2, "isDigit", "(I)Z"⟩
def RX3 : String := "LightAsFarAsThePump$Orders"
def TX3 : u_T := fun k => match k with
  | 0 => ("LightAsFarAsThePump$Orders", "best", "[I", true)
  | 1 => ("LightAsFarAsThePump$Orders", "leastCost", "I", false)
  | 2 => ("LightAsFarAsThePump$Orders", "found", "Z", false)
  | _ => ("LightAsFarAsThePump$Orders", "order", "[I", true)
def tyX3 : Nat → FieldType := fun k => match k with
  | 0 => .array .int
  | 1 => .int
  | 2 => .boolean
  | _ => .array .int
abbrev wsX30 : List Cond := u_ws RX3 TX3 4
theorem nmX3 : ∀ a, a < 4 → ∀ b, b < 4 → a ≠ b → (TX3 a).2.1 ≠ (TX3 b).2.1 := by decide +kernel
theorem tyX3_ok : ∀ k, k < 4 → parseFieldDescriptor (TX3 k).2.2.1 = some (tyX3 k) := by decide +kernel
abbrev cX3_init : ByteArray := prog_5_method_1_code
def yX3_init : MethodName := ⟨RX3, "<init>", "()V"⟩
abbrev cX3_search : ByteArray := prog_5_method_2_code
def yX3_search : MethodName := ⟨RX3, "search", "(LLightAsFarAsThePump$Alley;LLightAsFarAsThePump$Walk;Z)V"⟩
abbrev cX3_next : ByteArray := prog_5_method_3_code
def yX3_next : MethodName := ⟨RX3, "next", "(I)Z"⟩
def RX4 : String := "LightAsFarAsThePump$Rows"
def TX4 : u_T := fun k => match k with
  | _ => ("", "", "", false)
def tyX4 : Nat → FieldType := fun k => match k with
  | _ => .int
abbrev wsX40 : List Cond := u_ws RX4 TX4 0
theorem nmX4 : ∀ a, a < 0 → ∀ b, b < 0 → a ≠ b → (TX4 a).2.1 ≠ (TX4 b).2.1 := by decide +kernel
theorem tyX4_ok : ∀ k, k < 0 → parseFieldDescriptor (TX4 k).2.2.1 = some (tyX4 k) := by decide +kernel
abbrev cX4_at : ByteArray := prog_6_method_2_code
def yX4_at : MethodName := ⟨RX4, "at", "([II)I"⟩
abbrev cX4_put : ByteArray := prog_6_method_3_code
def yX4_put : MethodName := ⟨RX4, "put", "([III)V"⟩
abbrev cX4_copy : ByteArray := prog_6_method_4_code
def yX4_copy : MethodName := ⟨RX4, "copy", "([I[I)V"⟩
abbrev cX4_exchange : ByteArray := prog_6_method_5_code
def yX4_exchange : MethodName := ⟨RX4, "exchange", "([III)V"⟩
def RX5 : String := "LightAsFarAsThePump$Walk"
def TX5 : u_T := fun k => match k with
  | 0 => ("LightAsFarAsThePump$Walk", "dark", "[I", true)
  | 1 => ("LightAsFarAsThePump$Walk", "light", "[I", true)
  | 2 => ("LightAsFarAsThePump$Walk", "cost", "[I", true)
  | 3 => ("LightAsFarAsThePump$Walk", "stood", "[I", true)
  | 4 => ("LightAsFarAsThePump$Walk", "had", "[I", true)
  | 5 => ("LightAsFarAsThePump$Walk", "whoWent", "[I", true)
  | 6 => ("LightAsFarAsThePump$Walk", "after", "[I", true)
  | 7 => ("LightAsFarAsThePump$Walk", "atEnd", "[I", true)
  | 8 => ("LightAsFarAsThePump$Walk", "lampCell", "[I", true)
  | 9 => ("LightAsFarAsThePump$Walk", "lampOil", "[I", true)
  | 10 => ("LightAsFarAsThePump$Walk", "lamps", "I", false)
  | 11 => ("LightAsFarAsThePump$Walk", "went", "I", false)
  | 12 => ("LightAsFarAsThePump$Walk", "allCost", "I", false)
  | 13 => ("LightAsFarAsThePump$Walk", "allDark", "I", false)
  | 14 => ("LightAsFarAsThePump$Walk", "allLight", "I", false)
  | 15 => ("LightAsFarAsThePump$Walk", "takers", "I", false)
  | _ => ("LightAsFarAsThePump$Walk", "lastTaker", "I", false)
def tyX5 : Nat → FieldType := fun k => match k with
  | 0 => .array .int
  | 1 => .array .int
  | 2 => .array .int
  | 3 => .array .int
  | 4 => .array .int
  | 5 => .array .int
  | 6 => .array .int
  | 7 => .array .int
  | 8 => .array .int
  | 9 => .array .int
  | 10 => .int
  | 11 => .int
  | 12 => .int
  | 13 => .int
  | 14 => .int
  | 15 => .int
  | _ => .int
abbrev wsX50 : List Cond := u_ws RX5 TX5 17
theorem nmX5 : ∀ a, a < 17 → ∀ b, b < 17 → a ≠ b → (TX5 a).2.1 ≠ (TX5 b).2.1 := by decide +kernel
theorem tyX5_ok : ∀ k, k < 17 → parseFieldDescriptor (TX5 k).2.2.1 = some (tyX5 k) := by decide +kernel
abbrev cX5_init : ByteArray := prog_7_method_1_code
def yX5_init : MethodName := ⟨RX5, "<init>", "()V"⟩
abbrev cX5_firstLamp : ByteArray := prog_7_method_2_code
def yX5_firstLamp : MethodName := ⟨RX5, "firstLamp", "()I"⟩
abbrev cX5_oilLeft : ByteArray := prog_7_method_3_code
def yX5_oilLeft : MethodName := ⟨RX5, "oilLeft", "()I"⟩
abbrev cX5_byHours : ByteArray := prog_7_method_4_code
def yX5_byHours : MethodName := ⟨RX5, "byHours", "(LLightAsFarAsThePump$Alley;)I"⟩
abbrev cX5_inOrder : ByteArray := prog_7_method_5_code
def yX5_inOrder : MethodName := ⟨RX5, "inOrder", "(LLightAsFarAsThePump$Alley;[I)I"⟩
abbrev cX5_begin : ByteArray := prog_7_method_6_code
def yX5_begin : MethodName := ⟨RX5, "begin", "(LLightAsFarAsThePump$Alley;)V"⟩
abbrev cX5_addLamp : ByteArray := prog_7_method_7_code
def yX5_addLamp : MethodName := ⟨RX5, "addLamp", "(II)V"⟩
abbrev cX5_go : ByteArray := prog_7_method_8_code
def yX5_go : MethodName := ⟨RX5, "go", "(LLightAsFarAsThePump$Alley;I)V"⟩
abbrev cX5_lampThatHeHas : ByteArray := prog_7_method_9_code
def yX5_lampThatHeHas : MethodName := ⟨RX5, "lampThatHeHas", "(LLightAsFarAsThePump$Alley;I)I"⟩
abbrev cX5_goInTheDark : ByteArray := prog_7_method_10_code
def yX5_goInTheDark : MethodName := ⟨RX5, "goInTheDark", "(LLightAsFarAsThePump$Alley;I)V"⟩
abbrev cX5_goWithLamp : ByteArray := prog_7_method_11_code
def yX5_goWithLamp : MethodName := ⟨RX5, "goWithLamp", "(LLightAsFarAsThePump$Alley;II)V"⟩
def RX6 : String := "LightAsFarAsThePump"
def TX6 : u_T := fun k => match k with
  | 0 => ("LightAsFarAsThePump", "alley", "LLightAsFarAsThePump$Alley;", true)
  | 1 => ("LightAsFarAsThePump", "image", "LLightAsFarAsThePump$Alley;", true)
  | 2 => ("LightAsFarAsThePump", "trial", "LLightAsFarAsThePump$Alley;", true)
  | 3 => ("LightAsFarAsThePump", "letters", "LLightAsFarAsThePump$Letters;", true)
  | 4 => ("LightAsFarAsThePump", "walk", "LLightAsFarAsThePump$Walk;", true)
  | 5 => ("LightAsFarAsThePump", "orders", "LLightAsFarAsThePump$Orders;", true)
  | 6 => ("LightAsFarAsThePump", "debts", "LLightAsFarAsThePump$Debts;", true)
  | 7 => ("LightAsFarAsThePump", "row", "[I", true)
  | 8 => ("LightAsFarAsThePump", "inRow", "I", false)
  | 9 => ("LightAsFarAsThePump", "refusals", "[I", true)
  | _ => ("LightAsFarAsThePump", "imageTaken", "Z", false)
def tyX6 : Nat → FieldType := fun k => match k with
  | 0 => .object "LightAsFarAsThePump$Alley"
  | 1 => .object "LightAsFarAsThePump$Alley"
  | 2 => .object "LightAsFarAsThePump$Alley"
  | 3 => .object "LightAsFarAsThePump$Letters"
  | 4 => .object "LightAsFarAsThePump$Walk"
  | 5 => .object "LightAsFarAsThePump$Orders"
  | 6 => .object "LightAsFarAsThePump$Debts"
  | 7 => .array .int
  | 8 => .int
  | 9 => .array .int
  | _ => .boolean
abbrev wsX60 : List Cond := u_ws RX6 TX6 11
theorem nmX6 : ∀ a, a < 11 → ∀ b, b < 11 → a ≠ b → (TX6 a).2.1 ≠ (TX6 b).2.1 := by decide +kernel
theorem tyX6_ok : ∀ k, k < 11 → parseFieldDescriptor (TX6 k).2.2.1 = some (tyX6 k) := by decide +kernel
abbrev cX6_init : ByteArray := prog_1_method_1_code
def yX6_init : MethodName := ⟨RX6, "<init>", "()V"⟩
abbrev cX6_letter : ByteArray := prog_1_method_2_code
def yX6_letter : MethodName := ⟨RX6, "letter", "(I)I"⟩
abbrev cX6_night : ByteArray := prog_1_method_3_code
def yX6_night : MethodName := ⟨RX6, "night", "()I"⟩
abbrev cX6_goer : ByteArray := prog_1_method_4_code
def yX6_goer : MethodName := ⟨RX6, "goer", "(II)I"⟩
abbrev cX6_hour : ByteArray := prog_1_method_5_code
def yX6_hour : MethodName := ⟨RX6, "hour", "(II)I"⟩
abbrev cX6_set : ByteArray := prog_1_method_6_code
def yX6_set : MethodName := ⟨RX6, "set", "(II)I"⟩
abbrev cX6_sums : ByteArray := prog_1_method_7_code
def yX6_sums : MethodName := ⟨RX6, "sums", "(I)I"⟩
abbrev cX6_of : ByteArray := prog_1_method_8_code
def yX6_of : MethodName := ⟨RX6, "of", "(II)I"⟩
abbrev cX6_lamp : ByteArray := prog_1_method_9_code
def yX6_lamp : MethodName := ⟨RX6, "lamp", "(I)I"⟩
abbrev cX6_best : ByteArray := prog_1_method_10_code
def yX6_best : MethodName := ⟨RX6, "best", "(II)I"⟩
abbrev cX6_bestPump : ByteArray := prog_1_method_11_code
def yX6_bestPump : MethodName := ⟨RX6, "bestPump", "()I"⟩
abbrev cX6_bestHour : ByteArray := prog_1_method_12_code
def yX6_bestHour : MethodName := ⟨RX6, "bestHour", "(I)I"⟩
abbrev cX6_without : ByteArray := prog_1_method_13_code
def yX6_without : MethodName := ⟨RX6, "without", "(I)I"⟩
abbrev cX6_second : ByteArray := prog_1_method_14_code
def yX6_second : MethodName := ⟨RX6, "second", "(I)I"⟩
abbrev cX6_bestSecond : ByteArray := prog_1_method_15_code
def yX6_bestSecond : MethodName := ⟨RX6, "bestSecond", "()I"⟩
abbrev cX6_net : ByteArray := prog_1_method_16_code
def yX6_net : MethodName := ⟨RX6, "net", "(I)I"⟩
abbrev cX6_payments : ByteArray := prog_1_method_17_code
def yX6_payments : MethodName := ⟨RX6, "payments", "()I"⟩
abbrev cX6_near : ByteArray := prog_1_method_18_code
def yX6_near : MethodName := ⟨RX6, "near", "(II)I"⟩
abbrev cX6_midwife : ByteArray := prog_1_method_19_code
def yX6_midwife : MethodName := ⟨RX6, "midwife", "(I)I"⟩
abbrev cX6_watch : ByteArray := prog_1_method_20_code
def yX6_watch : MethodName := ⟨RX6, "watch", "()I"⟩
abbrev cX6_whoHad : ByteArray := prog_1_method_21_code
def yX6_whoHad : MethodName := ⟨RX6, "whoHad", "(II)I"⟩
abbrev cX6_leastOil : ByteArray := prog_1_method_22_code
def yX6_leastOil : MethodName := ⟨RX6, "leastOil", "()I"⟩
abbrev cX6_row : ByteArray := prog_1_method_23_code
def yX6_row : MethodName := ⟨RX6, "row", "(I)I"⟩
abbrev cX6_judge : ByteArray := prog_1_method_24_code
def yX6_judge : MethodName := ⟨RX6, "judge", "()I"⟩
abbrev cX6_clear : ByteArray := prog_1_method_25_code
def yX6_clear : MethodName := ⟨RX6, "clear", "()I"⟩
abbrev cX6_lots : ByteArray := prog_1_method_26_code
def yX6_lots : MethodName := ⟨RX6, "lots", "(III)I"⟩
abbrev cX6_image : ByteArray := prog_1_method_27_code
def yX6_image : MethodName := ⟨RX6, "image", "()I"⟩
abbrev cX6_on : ByteArray := prog_1_method_28_code
def yX6_on : MethodName := ⟨RX6, "on", "()I"⟩
abbrev cX6_count : ByteArray := prog_1_method_29_code
def yX6_count : MethodName := ⟨RX6, "count", "(I)I"⟩
abbrev cX6_refuse : ByteArray := prog_1_method_30_code
def yX6_refuse : MethodName := ⟨RX6, "refuse", "(I)I"⟩
abbrev cX6_refuseAmongAll : ByteArray := prog_1_method_31_code
def yX6_refuseAmongAll : MethodName := ⟨RX6, "refuseAmongAll", "(I)I"⟩
abbrev cX6_hourRefusal : ByteArray := prog_1_method_32_code
def yX6_hourRefusal : MethodName := ⟨RX6, "hourRefusal", "(I)I"⟩
abbrev cX6_isCell : ByteArray := prog_1_method_33_code
def yX6_isCell : MethodName := ⟨RX6, "isCell", "(I)Z"⟩
abbrev cX6_valuesThatFitTheRow : ByteArray := prog_1_method_34_code
def yX6_valuesThatFitTheRow : MethodName := ⟨RX6, "valuesThatFitTheRow", "([III)I"⟩
abbrev cX6_firstNotSo : ByteArray := prog_1_method_35_code
def yX6_firstNotSo : MethodName := ⟨RX6, "firstNotSo", "()I"⟩
def RX7 : String := "LightAsFarAsThePumpModel"
def TX7 : u_T := fun k => match k with
  | 0 => ("LightAsFarAsThePumpModel", "goers", "I", false)
  | 1 => ("LightAsFarAsThePumpModel", "kind", "[I", true)
  | 2 => ("LightAsFarAsThePumpModel", "figure", "[I", true)
  | 3 => ("LightAsFarAsThePumpModel", "from", "[I", true)
  | 4 => ("LightAsFarAsThePumpModel", "to", "[I", true)
  | 5 => ("LightAsFarAsThePumpModel", "hour", "[I", true)
  | 6 => ("LightAsFarAsThePumpModel", "set", "[I", true)
  | 7 => ("LightAsFarAsThePumpModel", "letters", "I", false)
  | 8 => ("LightAsFarAsThePumpModel", "letter", "[I", true)
  | 9 => ("LightAsFarAsThePumpModel", "at", "I", false)
  | 10 => ("LightAsFarAsThePumpModel", "value", "[I", true)
  | 11 => ("LightAsFarAsThePumpModel", "inRow", "I", false)
  | 12 => ("LightAsFarAsThePumpModel", "row", "[I", true)
  | 13 => ("LightAsFarAsThePumpModel", "refusals", "[I", true)
  | 14 => ("LightAsFarAsThePumpModel", "imaged", "Z", false)
  | 15 => ("LightAsFarAsThePumpModel", "old", "[I", true)
  | 16 => ("LightAsFarAsThePumpModel", "ahead", "[I", true)
  | 17 => ("LightAsFarAsThePumpModel", "going", "I", false)
  | 18 => ("LightAsFarAsThePumpModel", "order", "[I", true)
  | 19 => ("LightAsFarAsThePumpModel", "lamps", "I", false)
  | 20 => ("LightAsFarAsThePumpModel", "lampAt", "[I", true)
  | 21 => ("LightAsFarAsThePumpModel", "oil", "[I", true)
  | 22 => ("LightAsFarAsThePumpModel", "dark", "[I", true)
  | 23 => ("LightAsFarAsThePumpModel", "light", "[I", true)
  | 24 => ("LightAsFarAsThePumpModel", "stood", "[I", true)
  | 25 => ("LightAsFarAsThePumpModel", "had", "[I", true)
  | 26 => ("LightAsFarAsThePumpModel", "last", "I", false)
  | 27 => ("LightAsFarAsThePumpModel", "ends", "[I", true)
  | 28 => ("LightAsFarAsThePumpModel", "nets", "[I", true)
  | 29 => ("LightAsFarAsThePumpModel", "best", "[I", true)
  | _ => ("LightAsFarAsThePumpModel", "groups", "[I", true)
def tyX7 : Nat → FieldType := fun k => match k with
  | 0 => .int
  | 1 => .array .int
  | 2 => .array .int
  | 3 => .array .int
  | 4 => .array .int
  | 5 => .array .int
  | 6 => .array .int
  | 7 => .int
  | 8 => .array .int
  | 9 => .int
  | 10 => .array .int
  | 11 => .int
  | 12 => .array .int
  | 13 => .array .int
  | 14 => .boolean
  | 15 => .array .int
  | 16 => .array .int
  | 17 => .int
  | 18 => .array .int
  | 19 => .int
  | 20 => .array .int
  | 21 => .array .int
  | 22 => .array .int
  | 23 => .array .int
  | 24 => .array .int
  | 25 => .array .int
  | 26 => .int
  | 27 => .array .int
  | 28 => .array .int
  | 29 => .array .int
  | _ => .array .int
abbrev wsX70 : List Cond := u_ws RX7 TX7 31
theorem nmX7 : ∀ a, a < 31 → ∀ b, b < 31 → a ≠ b → (TX7 a).2.1 ≠ (TX7 b).2.1 := by decide +kernel
theorem tyX7_ok : ∀ k, k < 31 → parseFieldDescriptor (TX7 k).2.2.1 = some (tyX7 k) := by decide +kernel
abbrev cX7_init : ByteArray := prog_9_method_1_code
def yX7_init : MethodName := ⟨RX7, "<init>", "()V"⟩
abbrev cX7_no : ByteArray := prog_9_method_2_code
def yX7_no : MethodName := ⟨RX7, "no", "(I)I"⟩
abbrev cX7_noMuch : ByteArray := prog_9_method_3_code
def yX7_noMuch : MethodName := ⟨RX7, "noMuch", "(I)I"⟩
abbrev cX7_within : ByteArray := prog_9_method_4_code
def yX7_within : MethodName := ⟨RX7, "within", "(III)Z"⟩
abbrev cX7_isGoer : ByteArray := prog_9_method_5_code
def yX7_isGoer : MethodName := ⟨RX7, "isGoer", "(I)Z"⟩
abbrev cX7_isCell : ByteArray := prog_9_method_6_code
def yX7_isCell : MethodName := ⟨RX7, "isCell", "(I)Z"⟩
abbrev cX7_isHour : ByteArray := prog_9_method_7_code
def yX7_isHour : MethodName := ⟨RX7, "isHour", "(I)Z"⟩
abbrev cX7_mostOf : ByteArray := prog_9_method_8_code
def yX7_mostOf : MethodName := ⟨RX7, "mostOf", "(I)I"⟩
abbrev cX7_letter : ByteArray := prog_9_method_9_code
def yX7_letter : MethodName := ⟨RX7, "letter", "(I)I"⟩
abbrev cX7_is : ByteArray := prog_9_method_10_code
def yX7_is : MethodName := ⟨RX7, "is", "(I)Z"⟩
abbrev cX7_digits : ByteArray := prog_9_method_11_code
def yX7_digits : MethodName := ⟨RX7, "digits", "(I)Z"⟩
abbrev cX7_two : ByteArray := prog_9_method_12_code
def yX7_two : MethodName := ⟨RX7, "two", "(I)I"⟩
abbrev cX7_statement : ByteArray := prog_9_method_13_code
def yX7_statement : MethodName := ⟨RX7, "statement", "(Z)I"⟩
abbrev cX7_night : ByteArray := prog_9_method_14_code
def yX7_night : MethodName := ⟨RX7, "night", "()I"⟩
abbrev cX7_fetches : ByteArray := prog_9_method_15_code
def yX7_fetches : MethodName := ⟨RX7, "fetches", "(I)I"⟩
abbrev cX7_costs : ByteArray := prog_9_method_16_code
def yX7_costs : MethodName := ⟨RX7, "costs", "(I)I"⟩
abbrev cX7_goer : ByteArray := prog_9_method_17_code
def yX7_goer : MethodName := ⟨RX7, "goer", "(II)I"⟩
abbrev cX7_hour : ByteArray := prog_9_method_18_code
def yX7_hour : MethodName := ⟨RX7, "hour", "(II)I"⟩
abbrev cX7_set : ByteArray := prog_9_method_19_code
def yX7_set : MethodName := ⟨RX7, "set", "(II)I"⟩
abbrev cX7_walksDark : ByteArray := prog_9_method_20_code
def yX7_walksDark : MethodName := ⟨RX7, "walksDark", "(III)V"⟩
abbrev cX7_carries : ByteArray := prog_9_method_21_code
def yX7_carries : MethodName := ⟨RX7, "carries", "(III)V"⟩
abbrev cX7_carriedTo : ByteArray := prog_9_method_22_code
def yX7_carriedTo : MethodName := ⟨RX7, "carriedTo", "(II)I"⟩
abbrev cX7_nearer : ByteArray := prog_9_method_23_code
def yX7_nearer : MethodName := ⟨RX7, "nearer", "(I)I"⟩
abbrev cX7_goes : ByteArray := prog_9_method_24_code
def yX7_goes : MethodName := ⟨RX7, "goes", "(I)V"⟩
abbrev cX7_sets : ByteArray := prog_9_method_25_code
def yX7_sets : MethodName := ⟨RX7, "sets", "(I)V"⟩
abbrev cX7_run : ByteArray := prog_9_method_26_code
def yX7_run : MethodName := ⟨RX7, "run", "(II)V"⟩
abbrev cX7_run_ : ByteArray := prog_9_method_27_code
def yX7_run_ : MethodName := ⟨RX7, "run", "()V"⟩
abbrev cX7_cost : ByteArray := prog_9_method_28_code
def yX7_cost : MethodName := ⟨RX7, "cost", "()I"⟩
abbrev cX7_costNow : ByteArray := prog_9_method_29_code
def yX7_costNow : MethodName := ⟨RX7, "costNow", "()I"⟩
abbrev cX7_sums : ByteArray := prog_9_method_30_code
def yX7_sums : MethodName := ⟨RX7, "sums", "(I)I"⟩
abbrev cX7_of : ByteArray := prog_9_method_31_code
def yX7_of : MethodName := ⟨RX7, "of", "(II)I"⟩
abbrev cX7_lamp : ByteArray := prog_9_method_32_code
def yX7_lamp : MethodName := ⟨RX7, "lamp", "(I)I"⟩
abbrev cX7_nextOrder : ByteArray := prog_9_method_33_code
def yX7_nextOrder : MethodName := ⟨RX7, "nextOrder", "()Z"⟩
abbrev cX7_swap : ByteArray := prog_9_method_34_code
def yX7_swap : MethodName := ⟨RX7, "swap", "(II)V"⟩
abbrev cX7_best : ByteArray := prog_9_method_35_code
def yX7_best : MethodName := ⟨RX7, "best", "(II)I"⟩
abbrev cX7_bestPump : ByteArray := prog_9_method_36_code
def yX7_bestPump : MethodName := ⟨RX7, "bestPump", "()I"⟩
abbrev cX7_bestHour : ByteArray := prog_9_method_37_code
def yX7_bestHour : MethodName := ⟨RX7, "bestHour", "(I)I"⟩
abbrev cX7_without : ByteArray := prog_9_method_38_code
def yX7_without : MethodName := ⟨RX7, "without", "(I)I"⟩
abbrev cX7_secondAt : ByteArray := prog_9_method_39_code
def yX7_secondAt : MethodName := ⟨RX7, "secondAt", "(I)I"⟩
abbrev cX7_second : ByteArray := prog_9_method_40_code
def yX7_second : MethodName := ⟨RX7, "second", "(I)I"⟩
abbrev cX7_bestSecond : ByteArray := prog_9_method_41_code
def yX7_bestSecond : MethodName := ⟨RX7, "bestSecond", "()I"⟩
abbrev cX7_owe : ByteArray := prog_9_method_42_code
def yX7_owe : MethodName := ⟨RX7, "owe", "()V"⟩
abbrev cX7_net : ByteArray := prog_9_method_43_code
def yX7_net : MethodName := ⟨RX7, "net", "(I)I"⟩
abbrev cX7_payments : ByteArray := prog_9_method_44_code
def yX7_payments : MethodName := ⟨RX7, "payments", "()I"⟩
abbrev cX7_near : ByteArray := prog_9_method_45_code
def yX7_near : MethodName := ⟨RX7, "near", "(II)I"⟩
abbrev cX7_midwife : ByteArray := prog_9_method_46_code
def yX7_midwife : MethodName := ⟨RX7, "midwife", "(I)I"⟩
abbrev cX7_watch : ByteArray := prog_9_method_47_code
def yX7_watch : MethodName := ⟨RX7, "watch", "()I"⟩
abbrev cX7_wrong : ByteArray := prog_9_method_48_code
def yX7_wrong : MethodName := ⟨RX7, "wrong", "()I"⟩
abbrev cX7_whoHad : ByteArray := prog_9_method_49_code
def yX7_whoHad : MethodName := ⟨RX7, "whoHad", "(II)I"⟩
abbrev cX7_leastOil : ByteArray := prog_9_method_50_code
def yX7_leastOil : MethodName := ⟨RX7, "leastOil", "()I"⟩
abbrev cX7_row : ByteArray := prog_9_method_51_code
def yX7_row : MethodName := ⟨RX7, "row", "(I)I"⟩
abbrev cX7_judge : ByteArray := prog_9_method_52_code
def yX7_judge : MethodName := ⟨RX7, "judge", "()I"⟩
abbrev cX7_clear : ByteArray := prog_9_method_53_code
def yX7_clear : MethodName := ⟨RX7, "clear", "()I"⟩
abbrev cX7_lots : ByteArray := prog_9_method_54_code
def yX7_lots : MethodName := ⟨RX7, "lots", "(III)I"⟩
abbrev cX7_keep : ByteArray := prog_9_method_55_code
def yX7_keep : MethodName := ⟨RX7, "keep", "([I)V"⟩
abbrev cX7_again : ByteArray := prog_9_method_56_code
def yX7_again : MethodName := ⟨RX7, "again", "([I)V"⟩
abbrev cX7_image : ByteArray := prog_9_method_57_code
def yX7_image : MethodName := ⟨RX7, "image", "()I"⟩
abbrev cX7_on : ByteArray := prog_9_method_58_code
def yX7_on : MethodName := ⟨RX7, "on", "()I"⟩
abbrev cX7_count : ByteArray := prog_9_method_59_code
def yX7_count : MethodName := ⟨RX7, "count", "(I)I"⟩
def RJ11 : String := "java/lang/Character"
def TJ11 : u_T := fun k => match k with
  | _ => ("", "", "", false)
def tyJ11 : Nat → FieldType := fun k => match k with
  | _ => .int
abbrev wsJ110 : List Cond := u_ws RJ11 TJ11 0
theorem nmJ11 : ∀ a, a < 0 → ∀ b, b < 0 → a ≠ b → (TJ11 a).2.1 ≠ (TJ11 b).2.1 := by decide +kernel
theorem tyJ11_ok : ∀ k, k < 0 → parseFieldDescriptor (TJ11 k).2.2.1 = some (tyJ11 k) := by decide +kernel
abbrev cJ11_isValidCodePoint_9a6ad : ByteArray := prog_10_method_11_code
def yJ11_isValidCodePoint_9a6ad : MethodName := ⟨RJ11, "isValidCodePoint", "(I)Z"⟩
abbrev cJ11_highSurrogate_5068e : ByteArray := prog_10_method_28_code
def yJ11_highSurrogate_5068e : MethodName := ⟨RJ11, "highSurrogate", "(I)C"⟩
abbrev cJ11_lowSurrogate_5068e : ByteArray := prog_10_method_29_code
def yJ11_lowSurrogate_5068e : MethodName := ⟨RJ11, "lowSurrogate", "(I)C"⟩
def RJ9 : String := "java/lang/Math"
def TJ9 : u_T := fun k => match k with
  | _ => ("", "", "", false)
def tyJ9 : Nat → FieldType := fun k => match k with
  | _ => .int
abbrev wsJ90 : List Cond := u_ws RJ9 TJ9 0
theorem nmJ9 : ∀ a, a < 0 → ∀ b, b < 0 → a ≠ b → (TJ9 a).2.1 ≠ (TJ9 b).2.1 := by decide +kernel
theorem tyJ9_ok : ∀ k, k < 0 → parseFieldDescriptor (TJ9 k).2.2.1 = some (tyJ9 k) := by decide +kernel
abbrev cJ9_abs_0f7a4 : ByteArray := prog_11_method_59_code
def yJ9_abs_0f7a4 : MethodName := ⟨RJ9, "abs", "(I)I"⟩
abbrev cJ9_max_7cf53 : ByteArray := prog_11_method_65_code
def yJ9_max_7cf53 : MethodName := ⟨RJ9, "max", "(II)I"⟩
abbrev cJ9_min_7cf53 : ByteArray := prog_11_method_69_code
def yJ9_min_7cf53 : MethodName := ⟨RJ9, "min", "(II)I"⟩
def RJ0 : String := "java/lang/String"
def TJ0 : u_T := fun k => match k with
  | _ => ("", "", "", false)
def tyJ0 : Nat → FieldType := fun k => match k with
  | _ => .int
abbrev wsJ00 : List Cond := u_ws RJ0 TJ0 0
theorem nmJ0 : ∀ a, a < 0 → ∀ b, b < 0 → a ≠ b → (TJ0 a).2.1 ≠ (TJ0 b).2.1 := by decide +kernel
theorem tyJ0_ok : ∀ k, k < 0 → parseFieldDescriptor (TJ0 k).2.2.1 = some (tyJ0 k) := by decide +kernel
abbrev cJ0_length_8abf5 : ByteArray := prog_12_method_54_code
def yJ0_length_8abf5 : MethodName := ⟨RJ0, "length", "()I"⟩
abbrev cJ0_indexOf_0f7a4 : ByteArray := prog_12_method_79_code
def yJ0_indexOf_0f7a4 : MethodName := ⟨RJ0, "indexOf", "(I)I"⟩
abbrev cJ0_indexOf_7cf53 : ByteArray := prog_12_method_80_code
def yJ0_indexOf_7cf53 : MethodName := ⟨RJ0, "indexOf", "(II)I"⟩
abbrev cJ0_coder_7d493 : ByteArray := prog_12_method_152_code
def yJ0_coder_7d493 : MethodName := ⟨RJ0, "coder", "()B"⟩
abbrev cJ0_isLatin1_aae02 : ByteArray := prog_12_method_154_code
def yJ0_isLatin1_aae02 : MethodName := ⟨RJ0, "isLatin1", "()Z"⟩
abbrev cJ0_checkBoundsBeginEnd_23922 : ByteArray := prog_12_method_158_code
def yJ0_checkBoundsBeginEnd_23922 : MethodName := ⟨RJ0, "checkBoundsBeginEnd", "(III)V"⟩
def RJ1 : String := "java/lang/StringLatin1"
def TJ1 : u_T := fun k => match k with
  | _ => ("", "", "", false)
def tyJ1 : Nat → FieldType := fun k => match k with
  | _ => .int
abbrev wsJ10 : List Cond := u_ws RJ1 TJ1 0
theorem nmJ1 : ∀ a, a < 0 → ∀ b, b < 0 → a ≠ b → (TJ1 a).2.1 ≠ (TJ1 b).2.1 := by decide +kernel
theorem tyJ1_ok : ∀ k, k < 0 → parseFieldDescriptor (TJ1 k).2.2.1 = some (tyJ1 k) := by decide +kernel
abbrev cJ1_canEncode_9a6ad : ByteArray := prog_13_method_4_code
def yJ1_canEncode_9a6ad : MethodName := ⟨RJ1, "canEncode", "(I)Z"⟩
abbrev cJ1_indexOf_4cfef : ByteArray := prog_13_method_22_code
def yJ1_indexOf_4cfef : MethodName := ⟨RJ1, "indexOf", "([BIII)I"⟩
abbrev cJ1_indexOfChar_4cfef : ByteArray := prog_13_method_23_code
def yJ1_indexOfChar_4cfef : MethodName := ⟨RJ1, "indexOfChar", "([BIII)I"⟩
def RJ2 : String := "java/lang/StringUTF16"
def TJ2 : u_T := fun k => match k with
  | _ => ("", "", "", false)
def tyJ2 : Nat → FieldType := fun k => match k with
  | _ => .int
abbrev wsJ20 : List Cond := u_ws RJ2 TJ2 0
theorem nmJ2 : ∀ a, a < 0 → ∀ b, b < 0 → a ≠ b → (TJ2 a).2.1 ≠ (TJ2 b).2.1 := by decide +kernel
theorem tyJ2_ok : ∀ k, k < 0 → parseFieldDescriptor (TJ2 k).2.2.1 = some (tyJ2 k) := by decide +kernel
abbrev cJ2_getChar_3b067 : ByteArray := prog_14_method_5_code
def yJ2_getChar_3b067 : MethodName := ⟨RJ2, "getChar", "([BI)C"⟩
abbrev cJ2_length_9d52b : ByteArray := prog_14_method_6_code
def yJ2_length_9d52b : MethodName := ⟨RJ2, "length", "([B)I"⟩
abbrev cJ2_indexOf_4cfef : ByteArray := prog_14_method_40_code
def yJ2_indexOf_4cfef : MethodName := ⟨RJ2, "indexOf", "([BIII)I"⟩
abbrev cJ2_indexOfChar_4cfef : ByteArray := prog_14_method_47_code
def yJ2_indexOfChar_4cfef : MethodName := ⟨RJ2, "indexOfChar", "([BIII)I"⟩
abbrev cJ2_indexOfCharUnsafe_4cfef : ByteArray := prog_14_method_48_code
def yJ2_indexOfCharUnsafe_4cfef : MethodName := ⟨RJ2, "indexOfCharUnsafe", "([BIII)I"⟩
abbrev cJ2_indexOfSupplementary_4cfef : ByteArray := prog_14_method_49_code
def yJ2_indexOfSupplementary_4cfef : MethodName := ⟨RJ2, "indexOfSupplementary", "([BIII)I"⟩
abbrev cJ2_checkBoundsBeginEnd_d044e : ByteArray := prog_14_method_93_code
def yJ2_checkBoundsBeginEnd_d044e : MethodName := ⟨RJ2, "checkBoundsBeginEnd", "(II[B)V"⟩
def RJ3 : String := "jdk/internal/util/Preconditions"
def TJ3 : u_T := fun k => match k with
  | _ => ("", "", "", false)
def tyJ3 : Nat → FieldType := fun k => match k with
  | _ => .int
abbrev wsJ30 : List Cond := u_ws RJ3 TJ3 0
theorem nmJ3 : ∀ a, a < 0 → ∀ b, b < 0 → a ≠ b → (TJ3 a).2.1 ≠ (TJ3 b).2.1 := by decide +kernel
theorem tyJ3_ok : ∀ k, k < 0 → parseFieldDescriptor (TJ3 k).2.2.1 = some (tyJ3 k) := by decide +kernel
abbrev cJ3_checkFromToIndex_8c36e : ByteArray := prog_15_method_12_code
def yJ3_checkFromToIndex_8c36e : MethodName := ⟨RJ3, "checkFromToIndex", "(IIILjava/util/function/BiFunction;)I"⟩
def RL : String := "LightAsFarAsThePumpLaw"
abbrev cL_law : ByteArray := code
def yL_law : MethodName := ⟨RL, "law", "([I)Z"⟩
