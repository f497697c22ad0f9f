section
-- ===== PART A: goes FIRST, ahead of the names: the tables' words, and 'selects' of the private methods out of them =====
/-- a private method of a class that the tables say can be made, by its rows of tables_1 -/
def lw_okq (q : MethodName × Nat) : Prop := (q.1.cls ≠ "java/lang/invoke/MethodHandle" ∧ q.1.cls ≠ "java/lang/invoke/VarHandle") ∧ Cond.instantiable q.1.cls q.2 ∈ tables_1 ∧ Cond.privateMethod q.1 ∈ tables_1 ∧ Cond.instanceMethod q.1 ∈ tables_1
theorem lw_p0 : lw_okq (⟨"LightAsFarAsThePump", "refuse", "(I)I"⟩, 11) := ⟨⟨by decide +kernel, by decide +kernel⟩, List.mem_of_getElem? (i := 16) (by decide +kernel), List.mem_of_getElem? (i := 238) (by decide +kernel), List.mem_of_getElem? (i := 239) (by decide +kernel)⟩
theorem lw_p1 : lw_okq (⟨"LightAsFarAsThePump$Letters", "firstOutOfPlace", "()I"⟩, 2) := ⟨⟨by decide +kernel, by decide +kernel⟩, List.mem_of_getElem? (i := 74) (by decide +kernel), List.mem_of_getElem? (i := 266) (by decide +kernel), List.mem_of_getElem? (i := 267) (by decide +kernel)⟩
theorem lw_p2 : lw_okq (⟨"LightAsFarAsThePump$Letters", "tellStatement", "(LLightAsFarAsThePump$Alley;I)Z"⟩, 2) := ⟨⟨by decide +kernel, by decide +kernel⟩, List.mem_of_getElem? (i := 74) (by decide +kernel), List.mem_of_getElem? (i := 280) (by decide +kernel), List.mem_of_getElem? (i := 281) (by decide +kernel)⟩
theorem lw_p3 : lw_okq (⟨"LightAsFarAsThePump$Letters", "number", "(II)I"⟩, 2) := ⟨⟨by decide +kernel, by decide +kernel⟩, List.mem_of_getElem? (i := 74) (by decide +kernel), List.mem_of_getElem? (i := 284) (by decide +kernel), List.mem_of_getElem? (i := 285) (by decide +kernel)⟩
theorem lw_p4 : lw_okq (⟨"LightAsFarAsThePump$Walk", "begin", "(LLightAsFarAsThePump$Alley;)V"⟩, 17) := ⟨⟨by decide +kernel, by decide +kernel⟩, List.mem_of_getElem? (i := 88) (by decide +kernel), List.mem_of_getElem? (i := 353) (by decide +kernel), List.mem_of_getElem? (i := 354) (by decide +kernel)⟩
theorem lw_p5 : lw_okq (⟨"LightAsFarAsThePump$Walk", "addLamp", "(II)V"⟩, 17) := ⟨⟨by decide +kernel, by decide +kernel⟩, List.mem_of_getElem? (i := 88) (by decide +kernel), List.mem_of_getElem? (i := 365) (by decide +kernel), List.mem_of_getElem? (i := 366) (by decide +kernel)⟩
theorem lw_p6 : lw_okq (⟨"LightAsFarAsThePump$Walk", "go", "(LLightAsFarAsThePump$Alley;I)V"⟩, 17) := ⟨⟨by decide +kernel, by decide +kernel⟩, List.mem_of_getElem? (i := 88) (by decide +kernel), List.mem_of_getElem? (i := 371) (by decide +kernel), List.mem_of_getElem? (i := 372) (by decide +kernel)⟩
theorem lw_p7 : lw_okq (⟨"LightAsFarAsThePump$Walk", "lampThatHeHas", "(LLightAsFarAsThePump$Alley;I)I"⟩, 17) := ⟨⟨by decide +kernel, by decide +kernel⟩, List.mem_of_getElem? (i := 88) (by decide +kernel), List.mem_of_getElem? (i := 379) (by decide +kernel), List.mem_of_getElem? (i := 380) (by decide +kernel)⟩
theorem lw_p8 : lw_okq (⟨"LightAsFarAsThePump$Walk", "goInTheDark", "(LLightAsFarAsThePump$Alley;I)V"⟩, 17) := ⟨⟨by decide +kernel, by decide +kernel⟩, List.mem_of_getElem? (i := 88) (by decide +kernel), List.mem_of_getElem? (i := 387) (by decide +kernel), List.mem_of_getElem? (i := 388) (by decide +kernel)⟩
theorem lw_p9 : lw_okq (⟨"LightAsFarAsThePump$Walk", "goWithLamp", "(LLightAsFarAsThePump$Alley;II)V"⟩, 17) := ⟨⟨by decide +kernel, by decide +kernel⟩, List.mem_of_getElem? (i := 88) (by decide +kernel), List.mem_of_getElem? (i := 396) (by decide +kernel), List.mem_of_getElem? (i := 397) (by decide +kernel)⟩
theorem lw_p10 : lw_okq (⟨"LightAsFarAsThePump$Orders", "next", "(I)Z"⟩, 4) := ⟨⟨by decide +kernel, by decide +kernel⟩, List.mem_of_getElem? (i := 161) (by decide +kernel), List.mem_of_getElem? (i := 449) (by decide +kernel), List.mem_of_getElem? (i := 450) (by decide +kernel)⟩
theorem lw_p11 : lw_okq (⟨"LightAsFarAsThePump", "refuseAmongAll", "(I)I"⟩, 11) := ⟨⟨by decide +kernel, by decide +kernel⟩, List.mem_of_getElem? (i := 16) (by decide +kernel), List.mem_of_getElem? (i := 468) (by decide +kernel), List.mem_of_getElem? (i := 469) (by decide +kernel)⟩
theorem lw_p12 : lw_okq (⟨"LightAsFarAsThePump$Debts", "joinUp", "(II)V"⟩, 3) := ⟨⟨by decide +kernel, by decide +kernel⟩, List.mem_of_getElem? (i := 183) (by decide +kernel), List.mem_of_getElem? (i := 512) (by decide +kernel), List.mem_of_getElem? (i := 513) (by decide +kernel)⟩
theorem lw_p13 : lw_okq (⟨"LightAsFarAsThePump", "valuesThatFitTheRow", "([III)I"⟩, 11) := ⟨⟨by decide +kernel, by decide +kernel⟩, List.mem_of_getElem? (i := 16) (by decide +kernel), List.mem_of_getElem? (i := 537) (by decide +kernel), List.mem_of_getElem? (i := 538) (by decide +kernel)⟩
theorem lw_p14 : lw_okq (⟨"LightAsFarAsThePump", "firstNotSo", "()I"⟩, 11) := ⟨⟨by decide +kernel, by decide +kernel⟩, List.mem_of_getElem? (i := 16) (by decide +kernel), List.mem_of_getElem? (i := 541) (by decide +kernel), List.mem_of_getElem? (i := 542) (by decide +kernel)⟩
theorem lw_p15 : lw_okq (⟨"LightAsFarAsThePumpModel", "no", "(I)I"⟩, 31) := ⟨⟨by decide +kernel, by decide +kernel⟩, List.mem_of_getElem? (i := 592) (by decide +kernel), List.mem_of_getElem? (i := 696) (by decide +kernel), List.mem_of_getElem? (i := 697) (by decide +kernel)⟩
def lw_privs_1 : List (MethodName × Nat) := [(⟨"LightAsFarAsThePump", "refuse", "(I)I"⟩, 11), (⟨"LightAsFarAsThePump$Letters", "firstOutOfPlace", "()I"⟩, 2), (⟨"LightAsFarAsThePump$Letters", "tellStatement", "(LLightAsFarAsThePump$Alley;I)Z"⟩, 2), (⟨"LightAsFarAsThePump$Letters", "number", "(II)I"⟩, 2), (⟨"LightAsFarAsThePump$Walk", "begin", "(LLightAsFarAsThePump$Alley;)V"⟩, 17), (⟨"LightAsFarAsThePump$Walk", "addLamp", "(II)V"⟩, 17), (⟨"LightAsFarAsThePump$Walk", "go", "(LLightAsFarAsThePump$Alley;I)V"⟩, 17), (⟨"LightAsFarAsThePump$Walk", "lampThatHeHas", "(LLightAsFarAsThePump$Alley;I)I"⟩, 17), (⟨"LightAsFarAsThePump$Walk", "goInTheDark", "(LLightAsFarAsThePump$Alley;I)V"⟩, 17), (⟨"LightAsFarAsThePump$Walk", "goWithLamp", "(LLightAsFarAsThePump$Alley;II)V"⟩, 17), (⟨"LightAsFarAsThePump$Orders", "next", "(I)Z"⟩, 4), (⟨"LightAsFarAsThePump", "refuseAmongAll", "(I)I"⟩, 11), (⟨"LightAsFarAsThePump$Debts", "joinUp", "(II)V"⟩, 3), (⟨"LightAsFarAsThePump", "valuesThatFitTheRow", "([III)I"⟩, 11), (⟨"LightAsFarAsThePump", "firstNotSo", "()I"⟩, 11), (⟨"LightAsFarAsThePumpModel", "no", "(I)I"⟩, 31)]
theorem lw_r1 : ∀ q ∈ lw_privs_1, lw_okq q := List.forall_mem_cons.mpr ⟨lw_p0, List.forall_mem_cons.mpr ⟨lw_p1, List.forall_mem_cons.mpr ⟨lw_p2, List.forall_mem_cons.mpr ⟨lw_p3, List.forall_mem_cons.mpr ⟨lw_p4, List.forall_mem_cons.mpr ⟨lw_p5, List.forall_mem_cons.mpr ⟨lw_p6, List.forall_mem_cons.mpr ⟨lw_p7, List.forall_mem_cons.mpr ⟨lw_p8, List.forall_mem_cons.mpr ⟨lw_p9, List.forall_mem_cons.mpr ⟨lw_p10, List.forall_mem_cons.mpr ⟨lw_p11, List.forall_mem_cons.mpr ⟨lw_p12, List.forall_mem_cons.mpr ⟨lw_p13, List.forall_mem_cons.mpr ⟨lw_p14, List.forall_mem_cons.mpr ⟨lw_p15, fun _ h => absurd h List.not_mem_nil⟩⟩⟩⟩⟩⟩⟩⟩⟩⟩⟩⟩⟩⟩⟩⟩
theorem lw_p16 : lw_okq (⟨"LightAsFarAsThePumpModel", "statement", "(Z)I"⟩, 31) := ⟨⟨by decide +kernel, by decide +kernel⟩, List.mem_of_getElem? (i := 592) (by decide +kernel), List.mem_of_getElem? (i := 704) (by decide +kernel), List.mem_of_getElem? (i := 705) (by decide +kernel)⟩
theorem lw_p17 : lw_okq (⟨"LightAsFarAsThePumpModel", "is", "(I)Z"⟩, 31) := ⟨⟨by decide +kernel, by decide +kernel⟩, List.mem_of_getElem? (i := 592) (by decide +kernel), List.mem_of_getElem? (i := 708) (by decide +kernel), List.mem_of_getElem? (i := 709) (by decide +kernel)⟩
theorem lw_p18 : lw_okq (⟨"LightAsFarAsThePumpModel", "digits", "(I)Z"⟩, 31) := ⟨⟨by decide +kernel, by decide +kernel⟩, List.mem_of_getElem? (i := 592) (by decide +kernel), List.mem_of_getElem? (i := 795) (by decide +kernel), List.mem_of_getElem? (i := 796) (by decide +kernel)⟩
theorem lw_p19 : lw_okq (⟨"LightAsFarAsThePumpModel", "two", "(I)I"⟩, 31) := ⟨⟨by decide +kernel, by decide +kernel⟩, List.mem_of_getElem? (i := 592) (by decide +kernel), List.mem_of_getElem? (i := 799) (by decide +kernel), List.mem_of_getElem? (i := 800) (by decide +kernel)⟩
theorem lw_p20 : lw_okq (⟨"LightAsFarAsThePumpModel", "isGoer", "(I)Z"⟩, 31) := ⟨⟨by decide +kernel, by decide +kernel⟩, List.mem_of_getElem? (i := 592) (by decide +kernel), List.mem_of_getElem? (i := 812) (by decide +kernel), List.mem_of_getElem? (i := 813) (by decide +kernel)⟩
theorem lw_p21 : lw_okq (⟨"LightAsFarAsThePumpModel", "keep", "([I)V"⟩, 31) := ⟨⟨by decide +kernel, by decide +kernel⟩, List.mem_of_getElem? (i := 592) (by decide +kernel), List.mem_of_getElem? (i := 816) (by decide +kernel), List.mem_of_getElem? (i := 817) (by decide +kernel)⟩
theorem lw_p22 : lw_okq (⟨"LightAsFarAsThePumpModel", "again", "([I)V"⟩, 31) := ⟨⟨by decide +kernel, by decide +kernel⟩, List.mem_of_getElem? (i := 592) (by decide +kernel), List.mem_of_getElem? (i := 820) (by decide +kernel), List.mem_of_getElem? (i := 821) (by decide +kernel)⟩
theorem lw_p23 : lw_okq (⟨"LightAsFarAsThePumpModel", "fetches", "(I)I"⟩, 31) := ⟨⟨by decide +kernel, by decide +kernel⟩, List.mem_of_getElem? (i := 592) (by decide +kernel), List.mem_of_getElem? (i := 829) (by decide +kernel), List.mem_of_getElem? (i := 830) (by decide +kernel)⟩
theorem lw_p24 : lw_okq (⟨"LightAsFarAsThePumpModel", "costs", "(I)I"⟩, 31) := ⟨⟨by decide +kernel, by decide +kernel⟩, List.mem_of_getElem? (i := 592) (by decide +kernel), List.mem_of_getElem? (i := 833) (by decide +kernel), List.mem_of_getElem? (i := 834) (by decide +kernel)⟩
theorem lw_p25 : lw_okq (⟨"LightAsFarAsThePumpModel", "run", "()V"⟩, 31) := ⟨⟨by decide +kernel, by decide +kernel⟩, List.mem_of_getElem? (i := 592) (by decide +kernel), List.mem_of_getElem? (i := 852) (by decide +kernel), List.mem_of_getElem? (i := 853) (by decide +kernel)⟩
theorem lw_p26 : lw_okq (⟨"LightAsFarAsThePumpModel", "run", "(II)V"⟩, 31) := ⟨⟨by decide +kernel, by decide +kernel⟩, List.mem_of_getElem? (i := 592) (by decide +kernel), List.mem_of_getElem? (i := 856) (by decide +kernel), List.mem_of_getElem? (i := 857) (by decide +kernel)⟩
theorem lw_p27 : lw_okq (⟨"LightAsFarAsThePumpModel", "sets", "(I)V"⟩, 31) := ⟨⟨by decide +kernel, by decide +kernel⟩, List.mem_of_getElem? (i := 592) (by decide +kernel), List.mem_of_getElem? (i := 860) (by decide +kernel), List.mem_of_getElem? (i := 861) (by decide +kernel)⟩
theorem lw_p28 : lw_okq (⟨"LightAsFarAsThePumpModel", "goes", "(I)V"⟩, 31) := ⟨⟨by decide +kernel, by decide +kernel⟩, List.mem_of_getElem? (i := 592) (by decide +kernel), List.mem_of_getElem? (i := 864) (by decide +kernel), List.mem_of_getElem? (i := 865) (by decide +kernel)⟩
theorem lw_p29 : lw_okq (⟨"LightAsFarAsThePumpModel", "nearer", "(I)I"⟩, 31) := ⟨⟨by decide +kernel, by decide +kernel⟩, List.mem_of_getElem? (i := 592) (by decide +kernel), List.mem_of_getElem? (i := 868) (by decide +kernel), List.mem_of_getElem? (i := 869) (by decide +kernel)⟩
theorem lw_p30 : lw_okq (⟨"LightAsFarAsThePumpModel", "walksDark", "(III)V"⟩, 31) := ⟨⟨by decide +kernel, by decide +kernel⟩, List.mem_of_getElem? (i := 592) (by decide +kernel), List.mem_of_getElem? (i := 873) (by decide +kernel), List.mem_of_getElem? (i := 874) (by decide +kernel)⟩
theorem lw_p31 : lw_okq (⟨"LightAsFarAsThePumpModel", "carriedTo", "(II)I"⟩, 31) := ⟨⟨by decide +kernel, by decide +kernel⟩, List.mem_of_getElem? (i := 592) (by decide +kernel), List.mem_of_getElem? (i := 877) (by decide +kernel), List.mem_of_getElem? (i := 878) (by decide +kernel)⟩
def lw_privs_2 : List (MethodName × Nat) := [(⟨"LightAsFarAsThePumpModel", "statement", "(Z)I"⟩, 31), (⟨"LightAsFarAsThePumpModel", "is", "(I)Z"⟩, 31), (⟨"LightAsFarAsThePumpModel", "digits", "(I)Z"⟩, 31), (⟨"LightAsFarAsThePumpModel", "two", "(I)I"⟩, 31), (⟨"LightAsFarAsThePumpModel", "isGoer", "(I)Z"⟩, 31), (⟨"LightAsFarAsThePumpModel", "keep", "([I)V"⟩, 31), (⟨"LightAsFarAsThePumpModel", "again", "([I)V"⟩, 31), (⟨"LightAsFarAsThePumpModel", "fetches", "(I)I"⟩, 31), (⟨"LightAsFarAsThePumpModel", "costs", "(I)I"⟩, 31), (⟨"LightAsFarAsThePumpModel", "run", "()V"⟩, 31), (⟨"LightAsFarAsThePumpModel", "run", "(II)V"⟩, 31), (⟨"LightAsFarAsThePumpModel", "sets", "(I)V"⟩, 31), (⟨"LightAsFarAsThePumpModel", "goes", "(I)V"⟩, 31), (⟨"LightAsFarAsThePumpModel", "nearer", "(I)I"⟩, 31), (⟨"LightAsFarAsThePumpModel", "walksDark", "(III)V"⟩, 31), (⟨"LightAsFarAsThePumpModel", "carriedTo", "(II)I"⟩, 31)]
theorem lw_r2 : ∀ q ∈ lw_privs_2, lw_okq q := List.forall_mem_cons.mpr ⟨lw_p16, List.forall_mem_cons.mpr ⟨lw_p17, List.forall_mem_cons.mpr ⟨lw_p18, List.forall_mem_cons.mpr ⟨lw_p19, List.forall_mem_cons.mpr ⟨lw_p20, List.forall_mem_cons.mpr ⟨lw_p21, List.forall_mem_cons.mpr ⟨lw_p22, List.forall_mem_cons.mpr ⟨lw_p23, List.forall_mem_cons.mpr ⟨lw_p24, List.forall_mem_cons.mpr ⟨lw_p25, List.forall_mem_cons.mpr ⟨lw_p26, List.forall_mem_cons.mpr ⟨lw_p27, List.forall_mem_cons.mpr ⟨lw_p28, List.forall_mem_cons.mpr ⟨lw_p29, List.forall_mem_cons.mpr ⟨lw_p30, List.forall_mem_cons.mpr ⟨lw_p31, fun _ h => absurd h List.not_mem_nil⟩⟩⟩⟩⟩⟩⟩⟩⟩⟩⟩⟩⟩⟩⟩⟩
theorem lw_p32 : lw_okq (⟨"LightAsFarAsThePumpModel", "carries", "(III)V"⟩, 31) := ⟨⟨by decide +kernel, by decide +kernel⟩, List.mem_of_getElem? (i := 592) (by decide +kernel), List.mem_of_getElem? (i := 881) (by decide +kernel), List.mem_of_getElem? (i := 882) (by decide +kernel)⟩
theorem lw_p33 : lw_okq (⟨"LightAsFarAsThePumpModel", "cost", "()I"⟩, 31) := ⟨⟨by decide +kernel, by decide +kernel⟩, List.mem_of_getElem? (i := 592) (by decide +kernel), List.mem_of_getElem? (i := 886) (by decide +kernel), List.mem_of_getElem? (i := 887) (by decide +kernel)⟩
theorem lw_p34 : lw_okq (⟨"LightAsFarAsThePumpModel", "nextOrder", "()Z"⟩, 31) := ⟨⟨by decide +kernel, by decide +kernel⟩, List.mem_of_getElem? (i := 592) (by decide +kernel), List.mem_of_getElem? (i := 902) (by decide +kernel), List.mem_of_getElem? (i := 903) (by decide +kernel)⟩
theorem lw_p35 : lw_okq (⟨"LightAsFarAsThePumpModel", "swap", "(II)V"⟩, 31) := ⟨⟨by decide +kernel, by decide +kernel⟩, List.mem_of_getElem? (i := 592) (by decide +kernel), List.mem_of_getElem? (i := 906) (by decide +kernel), List.mem_of_getElem? (i := 907) (by decide +kernel)⟩
theorem lw_p36 : lw_okq (⟨"LightAsFarAsThePumpModel", "costNow", "()I"⟩, 31) := ⟨⟨by decide +kernel, by decide +kernel⟩, List.mem_of_getElem? (i := 592) (by decide +kernel), List.mem_of_getElem? (i := 914) (by decide +kernel), List.mem_of_getElem? (i := 915) (by decide +kernel)⟩
theorem lw_p37 : lw_okq (⟨"LightAsFarAsThePumpModel", "noMuch", "(I)I"⟩, 31) := ⟨⟨by decide +kernel, by decide +kernel⟩, List.mem_of_getElem? (i := 592) (by decide +kernel), List.mem_of_getElem? (i := 926) (by decide +kernel), List.mem_of_getElem? (i := 927) (by decide +kernel)⟩
theorem lw_p38 : lw_okq (⟨"LightAsFarAsThePumpModel", "secondAt", "(I)I"⟩, 31) := ⟨⟨by decide +kernel, by decide +kernel⟩, List.mem_of_getElem? (i := 592) (by decide +kernel), List.mem_of_getElem? (i := 935) (by decide +kernel), List.mem_of_getElem? (i := 936) (by decide +kernel)⟩
theorem lw_p39 : lw_okq (⟨"LightAsFarAsThePumpModel", "owe", "()V"⟩, 31) := ⟨⟨by decide +kernel, by decide +kernel⟩, List.mem_of_getElem? (i := 592) (by decide +kernel), List.mem_of_getElem? (i := 947) (by decide +kernel), List.mem_of_getElem? (i := 948) (by decide +kernel)⟩
theorem lw_p40 : lw_okq (⟨"LightAsFarAsThePumpModel", "wrong", "()I"⟩, 31) := ⟨⟨by decide +kernel, by decide +kernel⟩, List.mem_of_getElem? (i := 592) (by decide +kernel), List.mem_of_getElem? (i := 972) (by decide +kernel), List.mem_of_getElem? (i := 973) (by decide +kernel)⟩
def lw_privs_3 : List (MethodName × Nat) := [(⟨"LightAsFarAsThePumpModel", "carries", "(III)V"⟩, 31), (⟨"LightAsFarAsThePumpModel", "cost", "()I"⟩, 31), (⟨"LightAsFarAsThePumpModel", "nextOrder", "()Z"⟩, 31), (⟨"LightAsFarAsThePumpModel", "swap", "(II)V"⟩, 31), (⟨"LightAsFarAsThePumpModel", "costNow", "()I"⟩, 31), (⟨"LightAsFarAsThePumpModel", "noMuch", "(I)I"⟩, 31), (⟨"LightAsFarAsThePumpModel", "secondAt", "(I)I"⟩, 31), (⟨"LightAsFarAsThePumpModel", "owe", "()V"⟩, 31), (⟨"LightAsFarAsThePumpModel", "wrong", "()I"⟩, 31)]
theorem lw_r3 : ∀ q ∈ lw_privs_3, lw_okq q := List.forall_mem_cons.mpr ⟨lw_p32, List.forall_mem_cons.mpr ⟨lw_p33, List.forall_mem_cons.mpr ⟨lw_p34, List.forall_mem_cons.mpr ⟨lw_p35, List.forall_mem_cons.mpr ⟨lw_p36, List.forall_mem_cons.mpr ⟨lw_p37, List.forall_mem_cons.mpr ⟨lw_p38, List.forall_mem_cons.mpr ⟨lw_p39, List.forall_mem_cons.mpr ⟨lw_p40, fun _ h => absurd h List.not_mem_nil⟩⟩⟩⟩⟩⟩⟩⟩⟩
def lw_privs : List (MethodName × Nat) := lw_privs_1 ++ (lw_privs_2 ++ (lw_privs_3))
def lw_tbl : List Cond := k2_sels lw_privs ++ tables_1
theorem lw_privs_ok : ∀ q ∈ lw_privs, lw_okq q := by
  show ∀ q ∈ lw_privs_1 ++ (lw_privs_2 ++ (lw_privs_3)), lw_okq q
  exact List.forall_mem_append.mpr ⟨lw_r1, List.forall_mem_append.mpr ⟨lw_r2, lw_r3⟩⟩

def RX0 : String := "LightAsFarAsThePump$Alley"
def TX0 : u_T := fun k => match k with
  | 0 => ("LightAsFarAsThePump$Alley", "setting", "[I", true)
  | 1 => ("LightAsFarAsThePump$Alley", "kind", "[I", true)
  | 2 => ("LightAsFarAsThePump$Alley", "figure", "[I", true)
  | 3 => ("LightAsFarAsThePump$Alley", "from", "[I", true)
  | 4 => ("LightAsFarAsThePump$Alley", "to", "[I", true)
  | 5 => ("LightAsFarAsThePump$Alley", "hour", "[I", true)
  | 6 => ("LightAsFarAsThePump$Alley", "size", "I", false)
  | _ => ("LightAsFarAsThePump$Alley", "secondLamp", "I", false)
def tyX0 : Nat → FieldType := fun k => match k with
  | 0 => .array .int
  | 1 => .array .int
  | 2 => .array .int
  | 3 => .array .int
  | 4 => .array .int
  | 5 => .array .int
  | 6 => .int
  | _ => .int
abbrev wsX00 : List Cond := u_ws RX0 TX0 8
theorem nmX0 : ∀ a, a < 8 → ∀ b, b < 8 → a ≠ b → (TX0 a).2.1 ≠ (TX0 b).2.1 := by decide +kernel
theorem tyX0_ok : ∀ k, k < 8 → parseFieldDescriptor (TX0 k).2.2.1 = some (tyX0 k) := by decide +kernel
abbrev cX0_init : ByteArray := prog_2_method_1_code
def yX0_init : MethodName := ⟨RX0, "<init>", "()V"⟩
abbrev cX0_becomeLike : ByteArray := prog_2_method_2_code
def yX0_becomeLike : MethodName := ⟨RX0, "becomeLike", "(LLightAsFarAsThePump$Alley;)V"⟩
abbrev cX0_pump : ByteArray := prog_2_method_3_code
def yX0_pump : MethodName := ⟨RX0, "pump", "()I"⟩
abbrev cX0_oil : ByteArray := prog_2_method_4_code
def yX0_oil : MethodName := ⟨RX0, "oil", "()I"⟩
abbrev cX0_dark : ByteArray := prog_2_method_5_code
def yX0_dark : MethodName := ⟨RX0, "dark", "()I"⟩
abbrev cX0_knows : ByteArray := prog_2_method_6_code
def yX0_knows : MethodName := ⟨RX0, "knows", "(I)Z"⟩
abbrev cX0_settle : ByteArray := prog_2_method_7_code
def yX0_settle : MethodName := ⟨RX0, "settle", "(II)Z"⟩
abbrev cX0_add : ByteArray := prog_2_method_8_code
def yX0_add : MethodName := ⟨RX0, "add", "(IIIII)Z"⟩
abbrev cX0_exchangeHours : ByteArray := prog_2_method_9_code
def yX0_exchangeHours : MethodName := ⟨RX0, "exchangeHours", "(II)Z"⟩
abbrev cX0_changeHour : ByteArray := prog_2_method_10_code
def yX0_changeHour : MethodName := ⟨RX0, "changeHour", "(II)Z"⟩
abbrev cX0_sendHome : ByteArray := prog_2_method_11_code
def yX0_sendHome : MethodName := ⟨RX0, "sendHome", "(I)V"⟩
abbrev cX0_drawHours : ByteArray := prog_2_method_12_code
def yX0_drawHours : MethodName := ⟨RX0, "drawHours", "(I)I"⟩
abbrev cX0_stepsOf : ByteArray := prog_2_method_13_code
def yX0_stepsOf : MethodName := ⟨RX0, "stepsOf", "(I)I"⟩
abbrev cX0_allSteps : ByteArray := prog_2_method_14_code
def yX0_allSteps : MethodName := ⟨RX0, "allSteps", "()I"⟩
abbrev cX0_anybodyWithin : ByteArray := prog_2_method_15_code
def yX0_anybodyWithin : MethodName := ⟨RX0, "anybodyWithin", "(II)Z"⟩
abbrev cX0_fetches : ByteArray := prog_2_method_16_code
def yX0_fetches : MethodName := ⟨RX0, "fetches", "(I)I"⟩
abbrev cX0_darkStepCosts : ByteArray := prog_2_method_17_code
def yX0_darkStepCosts : MethodName := ⟨RX0, "darkStepCosts", "(I)I"⟩
abbrev cX0_carriesTo : ByteArray := prog_2_method_18_code
def yX0_carriesTo : MethodName := ⟨RX0, "carriesTo", "(II)I"⟩
abbrev cX0_bringsTo : ByteArray := prog_2_method_19_code
def yX0_bringsTo : MethodName := ⟨RX0, "bringsTo", "(II)I"⟩
def RX1 : String := "LightAsFarAsThePump$Debts"
def TX1 : u_T := fun k => match k with
  | 0 => ("LightAsFarAsThePump$Debts", "net", "[I", true)
  | 1 => ("LightAsFarAsThePump$Debts", "sum", "[I", true)
  | _ => ("LightAsFarAsThePump$Debts", "groups", "[I", true)
def tyX1 : Nat → FieldType := fun k => match k with
  | 0 => .array .int
  | 1 => .array .int
  | _ => .array .int
abbrev wsX10 : List Cond := u_ws RX1 TX1 3
theorem nmX1 : ∀ a, a < 3 → ∀ b, b < 3 → a ≠ b → (TX1 a).2.1 ≠ (TX1 b).2.1 := by decide +kernel
theorem tyX1_ok : ∀ k, k < 3 → parseFieldDescriptor (TX1 k).2.2.1 = some (tyX1 k) := by decide +kernel
abbrev cX1_init : ByteArray := prog_3_method_1_code
def yX1_init : MethodName := ⟨RX1, "<init>", "()V"⟩
abbrev cX1_reckon : ByteArray := prog_3_method_2_code
def yX1_reckon : MethodName := ⟨RX1, "reckon", "(LLightAsFarAsThePump$Alley;LLightAsFarAsThePump$Walk;)V"⟩
abbrev cX1_stepsFarther : ByteArray := prog_3_method_3_code
def yX1_stepsFarther : MethodName := ⟨RX1, "stepsFarther", "(LLightAsFarAsThePump$Alley;II)I"⟩
abbrev cX1_fewestPayments : ByteArray := prog_3_method_4_code
def yX1_fewestPayments : MethodName := ⟨RX1, "fewestPayments", "(I)I"⟩
abbrev cX1_joinUp : ByteArray := prog_3_method_5_code
def yX1_joinUp : MethodName := ⟨RX1, "joinUp", "(II)V"⟩
def RX2 : String := "LightAsFarAsThePump$Letters"
def TX2 : u_T := fun k => match k with
  | 0 => ("LightAsFarAsThePump$Letters", "letter", "[I", true)
  | _ => ("LightAsFarAsThePump$Letters", "size", "I", false)
def tyX2 : Nat → FieldType := fun k => match k with
  | 0 => .array .int
  | _ => .int
abbrev wsX20 : List Cond := u_ws RX2 TX2 2
theorem nmX2 : ∀ a, a < 2 → ∀ b, b < 2 → a ≠ b → (TX2 a).2.1 ≠ (TX2 b).2.1 := by decide +kernel
theorem tyX2_ok : ∀ k, k < 2 → parseFieldDescriptor (TX2 k).2.2.1 = some (tyX2 k) := by decide +kernel
abbrev cX2_init : ByteArray := prog_4_method_1_code
def yX2_init : MethodName := ⟨RX2, "<init>", "()V"⟩
abbrev cX2_add : ByteArray := prog_4_method_2_code
def yX2_add : MethodName := ⟨RX2, "add", "(I)V"⟩
abbrev cX2_tellTo : ByteArray := prog_4_method_3_code
def yX2_tellTo : MethodName := ⟨RX2, "tellTo", "(LLightAsFarAsThePump$Alley;)I"⟩
abbrev cX2_firstOutOfPlace : ByteArray := prog_4_method_4_code
def yX2_firstOutOfPlace : MethodName := ⟨RX2, "firstOutOfPlace", "()I"⟩
abbrev cX2_tellStatement : ByteArray := prog_4_method_5_code
def yX2_tellStatement : MethodName := ⟨RX2, "tellStatement", "(LLightAsFarAsThePump$Alley;I)Z"⟩
abbrev cX2_number : ByteArray := prog_4_method_6_code
def yX2_number : MethodName := ⟨RX2, "number", "(II)I"⟩
abbrev cX2_digitsOf : ByteArray := prog_4_method_7_code
def yX2_digitsOf : MethodName := ⟨RX2, "digitsOf", "(I)I"⟩
abbrev cX2_lengthOf : ByteArray := prog_4_method_8_code
def yX2_lengthOf : MethodName := ⟨RX2, "lengthOf", "(I)I"⟩
abbrev cX2_kindOf : ByteArray := prog_4_method_9_code
def yX2_kindOf : MethodName := ⟨RX2, "kindOf", "(I)I"⟩
abbrev cX2_isDigit : ByteArray := prog_4_method_10_code
def yX2_isDigit : MethodName := ⟨RX2, "isDigit", "(I)Z"⟩
def RX3 : String := "LightAsFarAsThePump$Orders"
def TX3 : u_T := fun k => match k with
  | 0 => ("LightAsFarAsThePump$Orders", "best", "[I", true)
  | 1 => ("LightAsFarAsThePump$Orders", "leastCost", "I", false)
  | 2 => ("LightAsFarAsThePump$Orders", "found", "Z", false)
  | _ => ("LightAsFarAsThePump$Orders", "order", "[I", true)
def tyX3 : Nat → FieldType := fun k => match k with
  | 0 => .array .int
  | 1 => .int
  | 2 => .boolean
  | _ => .array .int
abbrev wsX30 : List Cond := u_ws RX3 TX3 4
theorem nmX3 : ∀ a, a < 4 → ∀ b, b < 4 → a ≠ b → (TX3 a).2.1 ≠ (TX3 b).2.1 := by decide +kernel
theorem tyX3_ok : ∀ k, k < 4 → parseFieldDescriptor (TX3 k).2.2.1 = some (tyX3 k) := by decide +kernel
abbrev cX3_init : ByteArray := prog_5_method_1_code
def yX3_init : MethodName := ⟨RX3, "<init>", "()V"⟩
abbrev cX3_search : ByteArray := prog_5_method_2_code
def yX3_search : MethodName := ⟨RX3, "search", "(LLightAsFarAsThePump$Alley;LLightAsFarAsThePump$Walk;Z)V"⟩
abbrev cX3_next : ByteArray := prog_5_method_3_code
def yX3_next : MethodName := ⟨RX3, "next", "(I)Z"⟩
def RX4 : String := "LightAsFarAsThePump$Rows"
def TX4 : u_T := fun k => match k with
  | _ => ("", "", "", false)
def tyX4 : Nat → FieldType := fun k => match k with
  | _ => .int
abbrev wsX40 : List Cond := u_ws RX4 TX4 0
theorem nmX4 : ∀ a, a < 0 → ∀ b, b < 0 → a ≠ b → (TX4 a).2.1 ≠ (TX4 b).2.1 := by decide +kernel
theorem tyX4_ok : ∀ k, k < 0 → parseFieldDescriptor (TX4 k).2.2.1 = some (tyX4 k) := by decide +kernel
abbrev cX4_at : ByteArray := prog_6_method_2_code
def yX4_at : MethodName := ⟨RX4, "at", "([II)I"⟩
abbrev cX4_put : ByteArray := prog_6_method_3_code
def yX4_put : MethodName := ⟨RX4, "put", "([III)V"⟩
abbrev cX4_copy : ByteArray := prog_6_method_4_code
def yX4_copy : MethodName := ⟨RX4, "copy", "([I[I)V"⟩
abbrev cX4_exchange : ByteArray := prog_6_method_5_code
def yX4_exchange : MethodName := ⟨RX4, "exchange", "([III)V"⟩
def RX5 : String := "LightAsFarAsThePump$Walk"
def TX5 : u_T := fun k => match k with
  | 0 => ("LightAsFarAsThePump$Walk", "dark", "[I", true)
  | 1 => ("LightAsFarAsThePump$Walk", "light", "[I", true)
  | 2 => ("LightAsFarAsThePump$Walk", "cost", "[I", true)
  | 3 => ("LightAsFarAsThePump$Walk", "stood", "[I", true)
  | 4 => ("LightAsFarAsThePump$Walk", "had", "[I", true)
  | 5 => ("LightAsFarAsThePump$Walk", "whoWent", "[I", true)
  | 6 => ("LightAsFarAsThePump$Walk", "after", "[I", true)
  | 7 => ("LightAsFarAsThePump$Walk", "atEnd", "[I", true)
  | 8 => ("LightAsFarAsThePump$Walk", "lampCell", "[I", true)
  | 9 => ("LightAsFarAsThePump$Walk", "lampOil", "[I", true)
  | 10 => ("LightAsFarAsThePump$Walk", "lamps", "I", false)
  | 11 => ("LightAsFarAsThePump$Walk", "went", "I", false)
  | 12 => ("LightAsFarAsThePump$Walk", "allCost", "I", false)
  | 13 => ("LightAsFarAsThePump$Walk", "allDark", "I", false)
  | 14 => ("LightAsFarAsThePump$Walk", "allLight", "I", false)
  | 15 => ("LightAsFarAsThePump$Walk", "takers", "I", false)
  | _ => ("LightAsFarAsThePump$Walk", "lastTaker", "I", false)
def tyX5 : Nat → FieldType := fun k => match k with
  | 0 => .array .int
  | 1 => .array .int
  | 2 => .array .int
  | 3 => .array .int
  | 4 => .array .int
  | 5 => .array .int
  | 6 => .array .int
  | 7 => .array .int
  | 8 => .array .int
  | 9 => .array .int
  | 10 => .int
  | 11 => .int
  | 12 => .int
  | 13 => .int
  | 14 => .int
  | 15 => .int
  | _ => .int
abbrev wsX50 : List Cond := u_ws RX5 TX5 17
theorem nmX5 : ∀ a, a < 17 → ∀ b, b < 17 → a ≠ b → (TX5 a).2.1 ≠ (TX5 b).2.1 := by decide +kernel
theorem tyX5_ok : ∀ k, k < 17 → parseFieldDescriptor (TX5 k).2.2.1 = some (tyX5 k) := by decide +kernel
abbrev cX5_init : ByteArray := prog_7_method_1_code
def yX5_init : MethodName := ⟨RX5, "<init>", "()V"⟩
abbrev cX5_firstLamp : ByteArray := prog_7_method_2_code
def yX5_firstLamp : MethodName := ⟨RX5, "firstLamp", "()I"⟩
abbrev cX5_oilLeft : ByteArray := prog_7_method_3_code
def yX5_oilLeft : MethodName := ⟨RX5, "oilLeft", "()I"⟩
abbrev cX5_byHours : ByteArray := prog_7_method_4_code
def yX5_byHours : MethodName := ⟨RX5, "byHours", "(LLightAsFarAsThePump$Alley;)I"⟩
abbrev cX5_inOrder : ByteArray := prog_7_method_5_code
def yX5_inOrder : MethodName := ⟨RX5, "inOrder", "(LLightAsFarAsThePump$Alley;[I)I"⟩
abbrev cX5_begin : ByteArray := prog_7_method_6_code
def yX5_begin : MethodName := ⟨RX5, "begin", "(LLightAsFarAsThePump$Alley;)V"⟩
abbrev cX5_addLamp : ByteArray := prog_7_method_7_code
def yX5_addLamp : MethodName := ⟨RX5, "addLamp", "(II)V"⟩
abbrev cX5_go : ByteArray := prog_7_method_8_code
def yX5_go : MethodName := ⟨RX5, "go", "(LLightAsFarAsThePump$Alley;I)V"⟩
abbrev cX5_lampThatHeHas : ByteArray := prog_7_method_9_code
def yX5_lampThatHeHas : MethodName := ⟨RX5, "lampThatHeHas", "(LLightAsFarAsThePump$Alley;I)I"⟩
abbrev cX5_goInTheDark : ByteArray := prog_7_method_10_code
def yX5_goInTheDark : MethodName := ⟨RX5, "goInTheDark", "(LLightAsFarAsThePump$Alley;I)V"⟩
abbrev cX5_goWithLamp : ByteArray := prog_7_method_11_code
def yX5_goWithLamp : MethodName := ⟨RX5, "goWithLamp", "(LLightAsFarAsThePump$Alley;II)V"⟩
def RX6 : String := "LightAsFarAsThePump"
def TX6 : u_T := fun k => match k with
  | 0 => ("LightAsFarAsThePump", "alley", "LLightAsFarAsThePump$Alley;", true)
  | 1 => ("LightAsFarAsThePump", "image", "LLightAsFarAsThePump$Alley;", true)
  | 2 => ("LightAsFarAsThePump", "trial", "LLightAsFarAsThePump$Alley;", true)
  | 3 => ("LightAsFarAsThePump", "letters", "LLightAsFarAsThePump$Letters;", true)
  | 4 => ("LightAsFarAsThePump", "walk", "LLightAsFarAsThePump$Walk;", true)
  | 5 => ("LightAsFarAsThePump", "orders", "LLightAsFarAsThePump$Orders;", true)
  | 6 => ("LightAsFarAsThePump", "debts", "LLightAsFarAsThePump$Debts;", true)
  | 7 => ("LightAsFarAsThePump", "row", "[I", true)
  | 8 => ("LightAsFarAsThePump", "inRow", "I", false)
  | 9 => ("LightAsFarAsThePump", "refusals", "[I", true)
  | _ => ("LightAsFarAsThePump", "imageTaken", "Z", false)
def tyX6 : Nat → FieldType := fun k => match k with
  | 0 => .object "LightAsFarAsThePump$Alley"
  | 1 => .object "LightAsFarAsThePump$Alley"
  | 2 => .object "LightAsFarAsThePump$Alley"
  | 3 => .object "LightAsFarAsThePump$Letters"
  | 4 => .object "LightAsFarAsThePump$Walk"
  | 5 => .object "LightAsFarAsThePump$Orders"
  | 6 => .object "LightAsFarAsThePump$Debts"
  | 7 => .array .int
  | 8 => .int
  | 9 => .array .int
  | _ => .boolean
abbrev wsX60 : List Cond := u_ws RX6 TX6 11
theorem nmX6 : ∀ a, a < 11 → ∀ b, b < 11 → a ≠ b → (TX6 a).2.1 ≠ (TX6 b).2.1 := by decide +kernel
theorem tyX6_ok : ∀ k, k < 11 → parseFieldDescriptor (TX6 k).2.2.1 = some (tyX6 k) := by decide +kernel
abbrev cX6_init : ByteArray := prog_1_method_1_code
def yX6_init : MethodName := ⟨RX6, "<init>", "()V"⟩
abbrev cX6_letter : ByteArray := prog_1_method_2_code
def yX6_letter : MethodName := ⟨RX6, "letter", "(I)I"⟩
abbrev cX6_night : ByteArray := prog_1_method_3_code
def yX6_night : MethodName := ⟨RX6, "night", "()I"⟩
abbrev cX6_goer : ByteArray := prog_1_method_4_code
def yX6_goer : MethodName := ⟨RX6, "goer", "(II)I"⟩
abbrev cX6_hour : ByteArray := prog_1_method_5_code
def yX6_hour : MethodName := ⟨RX6, "hour", "(II)I"⟩
abbrev cX6_set : ByteArray := prog_1_method_6_code
def yX6_set : MethodName := ⟨RX6, "set", "(II)I"⟩
abbrev cX6_sums : ByteArray := prog_1_method_7_code
def yX6_sums : MethodName := ⟨RX6, "sums", "(I)I"⟩
abbrev cX6_of : ByteArray := prog_1_method_8_code
def yX6_of : MethodName := ⟨RX6, "of", "(II)I"⟩
abbrev cX6_lamp : ByteArray := prog_1_method_9_code
def yX6_lamp : MethodName := ⟨RX6, "lamp", "(I)I"⟩
abbrev cX6_best : ByteArray := prog_1_method_10_code
def yX6_best : MethodName := ⟨RX6, "best", "(II)I"⟩
abbrev cX6_bestPump : ByteArray := prog_1_method_11_code
def yX6_bestPump : MethodName := ⟨RX6, "bestPump", "()I"⟩
abbrev cX6_bestHour : ByteArray := prog_1_method_12_code
def yX6_bestHour : MethodName := ⟨RX6, "bestHour", "(I)I"⟩
abbrev cX6_without : ByteArray := prog_1_method_13_code
def yX6_without : MethodName := ⟨RX6, "without", "(I)I"⟩
abbrev cX6_second : ByteArray := prog_1_method_14_code
def yX6_second : MethodName := ⟨RX6, "second", "(I)I"⟩
abbrev cX6_bestSecond : ByteArray := prog_1_method_15_code
def yX6_bestSecond : MethodName := ⟨RX6, "bestSecond", "()I"⟩
abbrev cX6_net : ByteArray := prog_1_method_16_code
def yX6_net : MethodName := ⟨RX6, "net", "(I)I"⟩
abbrev cX6_payments : ByteArray := prog_1_method_17_code
def yX6_payments : MethodName := ⟨RX6, "payments", "()I"⟩
abbrev cX6_near : ByteArray := prog_1_method_18_code
def yX6_near : MethodName := ⟨RX6, "near", "(II)I"⟩
abbrev cX6_midwife : ByteArray := prog_1_method_19_code
def yX6_midwife : MethodName := ⟨RX6, "midwife", "(I)I"⟩
abbrev cX6_watch : ByteArray := prog_1_method_20_code
def yX6_watch : MethodName := ⟨RX6, "watch", "()I"⟩
abbrev cX6_whoHad : ByteArray := prog_1_method_21_code
def yX6_whoHad : MethodName := ⟨RX6, "whoHad", "(II)I"⟩
abbrev cX6_leastOil : ByteArray := prog_1_method_22_code
def yX6_leastOil : MethodName := ⟨RX6, "leastOil", "()I"⟩
abbrev cX6_row : ByteArray := prog_1_method_23_code
def yX6_row : MethodName := ⟨RX6, "row", "(I)I"⟩
abbrev cX6_judge : ByteArray := prog_1_method_24_code
def yX6_judge : MethodName := ⟨RX6, "judge", "()I"⟩
abbrev cX6_clear : ByteArray := prog_1_method_25_code
def yX6_clear : MethodName := ⟨RX6, "clear", "()I"⟩
abbrev cX6_lots : ByteArray := prog_1_method_26_code
def yX6_lots : MethodName := ⟨RX6, "lots", "(III)I"⟩
abbrev cX6_image : ByteArray := prog_1_method_27_code
def yX6_image : MethodName := ⟨RX6, "image", "()I"⟩
abbrev cX6_on : ByteArray := prog_1_method_28_code
def yX6_on : MethodName := ⟨RX6, "on", "()I"⟩
abbrev cX6_count : ByteArray := prog_1_method_29_code
def yX6_count : MethodName := ⟨RX6, "count", "(I)I"⟩
abbrev cX6_refuse : ByteArray := prog_1_method_30_code
def yX6_refuse : MethodName := ⟨RX6, "refuse", "(I)I"⟩
abbrev cX6_refuseAmongAll : ByteArray := prog_1_method_31_code
def yX6_refuseAmongAll : MethodName := ⟨RX6, "refuseAmongAll", "(I)I"⟩
abbrev cX6_hourRefusal : ByteArray := prog_1_method_32_code
def yX6_hourRefusal : MethodName := ⟨RX6, "hourRefusal", "(I)I"⟩
abbrev cX6_isCell : ByteArray := prog_1_method_33_code
def yX6_isCell : MethodName := ⟨RX6, "isCell", "(I)Z"⟩
abbrev cX6_valuesThatFitTheRow : ByteArray := prog_1_method_34_code
def yX6_valuesThatFitTheRow : MethodName := ⟨RX6, "valuesThatFitTheRow", "([III)I"⟩
abbrev cX6_firstNotSo : ByteArray := prog_1_method_35_code
def yX6_firstNotSo : MethodName := ⟨RX6, "firstNotSo", "()I"⟩
def RX7 : String := "LightAsFarAsThePumpModel"
def TX7 : u_T := fun k => match k with
  | 0 => ("LightAsFarAsThePumpModel", "goers", "I", false)
  | 1 => ("LightAsFarAsThePumpModel", "kind", "[I", true)
  | 2 => ("LightAsFarAsThePumpModel", "figure", "[I", true)
  | 3 => ("LightAsFarAsThePumpModel", "from", "[I", true)
  | 4 => ("LightAsFarAsThePumpModel", "to", "[I", true)
  | 5 => ("LightAsFarAsThePumpModel", "hour", "[I", true)
  | 6 => ("LightAsFarAsThePumpModel", "set", "[I", true)
  | 7 => ("LightAsFarAsThePumpModel", "letters", "I", false)
  | 8 => ("LightAsFarAsThePumpModel", "letter", "[I", true)
  | 9 => ("LightAsFarAsThePumpModel", "at", "I", false)
  | 10 => ("LightAsFarAsThePumpModel", "value", "[I", true)
  | 11 => ("LightAsFarAsThePumpModel", "inRow", "I", false)
  | 12 => ("LightAsFarAsThePumpModel", "row", "[I", true)
  | 13 => ("LightAsFarAsThePumpModel", "refusals", "[I", true)
  | 14 => ("LightAsFarAsThePumpModel", "imaged", "Z", false)
  | 15 => ("LightAsFarAsThePumpModel", "old", "[I", true)
  | 16 => ("LightAsFarAsThePumpModel", "ahead", "[I", true)
  | 17 => ("LightAsFarAsThePumpModel", "going", "I", false)
  | 18 => ("LightAsFarAsThePumpModel", "order", "[I", true)
  | 19 => ("LightAsFarAsThePumpModel", "lamps", "I", false)
  | 20 => ("LightAsFarAsThePumpModel", "lampAt", "[I", true)
  | 21 => ("LightAsFarAsThePumpModel", "oil", "[I", true)
  | 22 => ("LightAsFarAsThePumpModel", "dark", "[I", true)
  | 23 => ("LightAsFarAsThePumpModel", "light", "[I", true)
  | 24 => ("LightAsFarAsThePumpModel", "stood", "[I", true)
  | 25 => ("LightAsFarAsThePumpModel", "had", "[I", true)
  | 26 => ("LightAsFarAsThePumpModel", "last", "I", false)
  | 27 => ("LightAsFarAsThePumpModel", "ends", "[I", true)
  | 28 => ("LightAsFarAsThePumpModel", "nets", "[I", true)
  | 29 => ("LightAsFarAsThePumpModel", "best", "[I", true)
  | _ => ("LightAsFarAsThePumpModel", "groups", "[I", true)
def tyX7 : Nat → FieldType := fun k => match k with
  | 0 => .int
  | 1 => .array .int
  | 2 => .array .int
  | 3 => .array .int
  | 4 => .array .int
  | 5 => .array .int
  | 6 => .array .int
  | 7 => .int
  | 8 => .array .int
  | 9 => .int
  | 10 => .array .int
  | 11 => .int
  | 12 => .array .int
  | 13 => .array .int
  | 14 => .boolean
  | 15 => .array .int
  | 16 => .array .int
  | 17 => .int
  | 18 => .array .int
  | 19 => .int
  | 20 => .array .int
  | 21 => .array .int
  | 22 => .array .int
  | 23 => .array .int
  | 24 => .array .int
  | 25 => .array .int
  | 26 => .int
  | 27 => .array .int
  | 28 => .array .int
  | 29 => .array .int
  | _ => .array .int
abbrev wsX70 : List Cond := u_ws RX7 TX7 31
theorem nmX7 : ∀ a, a < 31 → ∀ b, b < 31 → a ≠ b → (TX7 a).2.1 ≠ (TX7 b).2.1 := by decide +kernel
theorem tyX7_ok : ∀ k, k < 31 → parseFieldDescriptor (TX7 k).2.2.1 = some (tyX7 k) := by decide +kernel
abbrev cX7_init : ByteArray := prog_9_method_1_code
def yX7_init : MethodName := ⟨RX7, "<init>", "()V"⟩
abbrev cX7_no : ByteArray := prog_9_method_2_code
def yX7_no : MethodName := ⟨RX7, "no", "(I)I"⟩
abbrev cX7_noMuch : ByteArray := prog_9_method_3_code
def yX7_noMuch : MethodName := ⟨RX7, "noMuch", "(I)I"⟩
abbrev cX7_within : ByteArray := prog_9_method_4_code
def yX7_within : MethodName := ⟨RX7, "within", "(III)Z"⟩
abbrev cX7_isGoer : ByteArray := prog_9_method_5_code
def yX7_isGoer : MethodName := ⟨RX7, "isGoer", "(I)Z"⟩
abbrev cX7_isCell : ByteArray := prog_9_method_6_code
def yX7_isCell : MethodName := ⟨RX7, "isCell", "(I)Z"⟩
abbrev cX7_isHour : ByteArray := prog_9_method_7_code
def yX7_isHour : MethodName := ⟨RX7, "isHour", "(I)Z"⟩
abbrev cX7_mostOf : ByteArray := prog_9_method_8_code
def yX7_mostOf : MethodName := ⟨RX7, "mostOf", "(I)I"⟩
abbrev cX7_letter : ByteArray := prog_9_method_9_code
def yX7_letter : MethodName := ⟨RX7, "letter", "(I)I"⟩
abbrev cX7_is : ByteArray := prog_9_method_10_code
def yX7_is : MethodName := ⟨RX7, "is", "(I)Z"⟩
abbrev cX7_digits : ByteArray := prog_9_method_11_code
def yX7_digits : MethodName := ⟨RX7, "digits", "(I)Z"⟩
abbrev cX7_two : ByteArray := prog_9_method_12_code
def yX7_two : MethodName := ⟨RX7, "two", "(I)I"⟩
abbrev cX7_statement : ByteArray := prog_9_method_13_code
def yX7_statement : MethodName := ⟨RX7, "statement", "(Z)I"⟩
abbrev cX7_night : ByteArray := prog_9_method_14_code
def yX7_night : MethodName := ⟨RX7, "night", "()I"⟩
abbrev cX7_fetches : ByteArray := prog_9_method_15_code
def yX7_fetches : MethodName := ⟨RX7, "fetches", "(I)I"⟩
abbrev cX7_costs : ByteArray := prog_9_method_16_code
def yX7_costs : MethodName := ⟨RX7, "costs", "(I)I"⟩
abbrev cX7_goer : ByteArray := prog_9_method_17_code
def yX7_goer : MethodName := ⟨RX7, "goer", "(II)I"⟩
abbrev cX7_hour : ByteArray := prog_9_method_18_code
def yX7_hour : MethodName := ⟨RX7, "hour", "(II)I"⟩
abbrev cX7_set : ByteArray := prog_9_method_19_code
def yX7_set : MethodName := ⟨RX7, "set", "(II)I"⟩
abbrev cX7_walksDark : ByteArray := prog_9_method_20_code
def yX7_walksDark : MethodName := ⟨RX7, "walksDark", "(III)V"⟩
abbrev cX7_carries : ByteArray := prog_9_method_21_code
def yX7_carries : MethodName := ⟨RX7, "carries", "(III)V"⟩
abbrev cX7_carriedTo : ByteArray := prog_9_method_22_code
def yX7_carriedTo : MethodName := ⟨RX7, "carriedTo", "(II)I"⟩
abbrev cX7_nearer : ByteArray := prog_9_method_23_code
def yX7_nearer : MethodName := ⟨RX7, "nearer", "(I)I"⟩
abbrev cX7_goes : ByteArray := prog_9_method_24_code
def yX7_goes : MethodName := ⟨RX7, "goes", "(I)V"⟩
abbrev cX7_sets : ByteArray := prog_9_method_25_code
def yX7_sets : MethodName := ⟨RX7, "sets", "(I)V"⟩
abbrev cX7_run : ByteArray := prog_9_method_26_code
def yX7_run : MethodName := ⟨RX7, "run", "(II)V"⟩
abbrev cX7_run_ : ByteArray := prog_9_method_27_code
def yX7_run_ : MethodName := ⟨RX7, "run", "()V"⟩
abbrev cX7_cost : ByteArray := prog_9_method_28_code
def yX7_cost : MethodName := ⟨RX7, "cost", "()I"⟩
abbrev cX7_costNow : ByteArray := prog_9_method_29_code
def yX7_costNow : MethodName := ⟨RX7, "costNow", "()I"⟩
abbrev cX7_sums : ByteArray := prog_9_method_30_code
def yX7_sums : MethodName := ⟨RX7, "sums", "(I)I"⟩
abbrev cX7_of : ByteArray := prog_9_method_31_code
def yX7_of : MethodName := ⟨RX7, "of", "(II)I"⟩
abbrev cX7_lamp : ByteArray := prog_9_method_32_code
def yX7_lamp : MethodName := ⟨RX7, "lamp", "(I)I"⟩
abbrev cX7_nextOrder : ByteArray := prog_9_method_33_code
def yX7_nextOrder : MethodName := ⟨RX7, "nextOrder", "()Z"⟩
abbrev cX7_swap : ByteArray := prog_9_method_34_code
def yX7_swap : MethodName := ⟨RX7, "swap", "(II)V"⟩
abbrev cX7_best : ByteArray := prog_9_method_35_code
def yX7_best : MethodName := ⟨RX7, "best", "(II)I"⟩
abbrev cX7_bestPump : ByteArray := prog_9_method_36_code
def yX7_bestPump : MethodName := ⟨RX7, "bestPump", "()I"⟩
abbrev cX7_bestHour : ByteArray := prog_9_method_37_code
def yX7_bestHour : MethodName := ⟨RX7, "bestHour", "(I)I"⟩
abbrev cX7_without : ByteArray := prog_9_method_38_code
def yX7_without : MethodName := ⟨RX7, "without", "(I)I"⟩
abbrev cX7_secondAt : ByteArray := prog_9_method_39_code
def yX7_secondAt : MethodName := ⟨RX7, "secondAt", "(I)I"⟩
abbrev cX7_second : ByteArray := prog_9_method_40_code
def yX7_second : MethodName := ⟨RX7, "second", "(I)I"⟩
abbrev cX7_bestSecond : ByteArray := prog_9_method_41_code
def yX7_bestSecond : MethodName := ⟨RX7, "bestSecond", "()I"⟩
abbrev cX7_owe : ByteArray := prog_9_method_42_code
def yX7_owe : MethodName := ⟨RX7, "owe", "()V"⟩
abbrev cX7_net : ByteArray := prog_9_method_43_code
def yX7_net : MethodName := ⟨RX7, "net", "(I)I"⟩
abbrev cX7_payments : ByteArray := prog_9_method_44_code
def yX7_payments : MethodName := ⟨RX7, "payments", "()I"⟩
abbrev cX7_near : ByteArray := prog_9_method_45_code
def yX7_near : MethodName := ⟨RX7, "near", "(II)I"⟩
abbrev cX7_midwife : ByteArray := prog_9_method_46_code
def yX7_midwife : MethodName := ⟨RX7, "midwife", "(I)I"⟩
abbrev cX7_watch : ByteArray := prog_9_method_47_code
def yX7_watch : MethodName := ⟨RX7, "watch", "()I"⟩
abbrev cX7_wrong : ByteArray := prog_9_method_48_code
def yX7_wrong : MethodName := ⟨RX7, "wrong", "()I"⟩
abbrev cX7_whoHad : ByteArray := prog_9_method_49_code
def yX7_whoHad : MethodName := ⟨RX7, "whoHad", "(II)I"⟩
abbrev cX7_leastOil : ByteArray := prog_9_method_50_code
def yX7_leastOil : MethodName := ⟨RX7, "leastOil", "()I"⟩
abbrev cX7_row : ByteArray := prog_9_method_51_code
def yX7_row : MethodName := ⟨RX7, "row", "(I)I"⟩
abbrev cX7_judge : ByteArray := prog_9_method_52_code
def yX7_judge : MethodName := ⟨RX7, "judge", "()I"⟩
abbrev cX7_clear : ByteArray := prog_9_method_53_code
def yX7_clear : MethodName := ⟨RX7, "clear", "()I"⟩
abbrev cX7_lots : ByteArray := prog_9_method_54_code
def yX7_lots : MethodName := ⟨RX7, "lots", "(III)I"⟩
abbrev cX7_keep : ByteArray := prog_9_method_55_code
def yX7_keep : MethodName := ⟨RX7, "keep", "([I)V"⟩
abbrev cX7_again : ByteArray := prog_9_method_56_code
def yX7_again : MethodName := ⟨RX7, "again", "([I)V"⟩
abbrev cX7_image : ByteArray := prog_9_method_57_code
def yX7_image : MethodName := ⟨RX7, "image", "()I"⟩
abbrev cX7_on : ByteArray := prog_9_method_58_code
def yX7_on : MethodName := ⟨RX7, "on", "()I"⟩
abbrev cX7_count : ByteArray := prog_9_method_59_code
def yX7_count : MethodName := ⟨RX7, "count", "(I)I"⟩
def RJ11 : String := "java/lang/Character"
def TJ11 : u_T := fun k => match k with
  | _ => ("", "", "", false)
def tyJ11 : Nat → FieldType := fun k => match k with
  | _ => .int
abbrev wsJ110 : List Cond := u_ws RJ11 TJ11 0
theorem nmJ11 : ∀ a, a < 0 → ∀ b, b < 0 → a ≠ b → (TJ11 a).2.1 ≠ (TJ11 b).2.1 := by decide +kernel
theorem tyJ11_ok : ∀ k, k < 0 → parseFieldDescriptor (TJ11 k).2.2.1 = some (tyJ11 k) := by decide +kernel
abbrev cJ11_isValidCodePoint_9a6ad : ByteArray := prog_10_method_11_code
def yJ11_isValidCodePoint_9a6ad : MethodName := ⟨RJ11, "isValidCodePoint", "(I)Z"⟩
abbrev cJ11_highSurrogate_5068e : ByteArray := prog_10_method_28_code
def yJ11_highSurrogate_5068e : MethodName := ⟨RJ11, "highSurrogate", "(I)C"⟩
abbrev cJ11_lowSurrogate_5068e : ByteArray := prog_10_method_29_code
def yJ11_lowSurrogate_5068e : MethodName := ⟨RJ11, "lowSurrogate", "(I)C"⟩
def RJ9 : String := "java/lang/Math"
def TJ9 : u_T := fun k => match k with
  | _ => ("", "", "", false)
def tyJ9 : Nat → FieldType := fun k => match k with
  | _ => .int
abbrev wsJ90 : List Cond := u_ws RJ9 TJ9 0
theorem nmJ9 : ∀ a, a < 0 → ∀ b, b < 0 → a ≠ b → (TJ9 a).2.1 ≠ (TJ9 b).2.1 := by decide +kernel
theorem tyJ9_ok : ∀ k, k < 0 → parseFieldDescriptor (TJ9 k).2.2.1 = some (tyJ9 k) := by decide +kernel
abbrev cJ9_abs_0f7a4 : ByteArray := prog_11_method_59_code
def yJ9_abs_0f7a4 : MethodName := ⟨RJ9, "abs", "(I)I"⟩
abbrev cJ9_max_7cf53 : ByteArray := prog_11_method_65_code
def yJ9_max_7cf53 : MethodName := ⟨RJ9, "max", "(II)I"⟩
abbrev cJ9_min_7cf53 : ByteArray := prog_11_method_69_code
def yJ9_min_7cf53 : MethodName := ⟨RJ9, "min", "(II)I"⟩
def RJ0 : String := "java/lang/String"
def TJ0 : u_T := fun k => match k with
  | _ => ("", "", "", false)
def tyJ0 : Nat → FieldType := fun k => match k with
  | _ => .int
abbrev wsJ00 : List Cond := u_ws RJ0 TJ0 0
theorem nmJ0 : ∀ a, a < 0 → ∀ b, b < 0 → a ≠ b → (TJ0 a).2.1 ≠ (TJ0 b).2.1 := by decide +kernel
theorem tyJ0_ok : ∀ k, k < 0 → parseFieldDescriptor (TJ0 k).2.2.1 = some (tyJ0 k) := by decide +kernel
abbrev cJ0_length_8abf5 : ByteArray := prog_12_method_54_code
def yJ0_length_8abf5 : MethodName := ⟨RJ0, "length", "()I"⟩
abbrev cJ0_indexOf_0f7a4 : ByteArray := prog_12_method_79_code
def yJ0_indexOf_0f7a4 : MethodName := ⟨RJ0, "indexOf", "(I)I"⟩
abbrev cJ0_indexOf_7cf53 : ByteArray := prog_12_method_80_code
def yJ0_indexOf_7cf53 : MethodName := ⟨RJ0, "indexOf", "(II)I"⟩
abbrev cJ0_coder_7d493 : ByteArray := prog_12_method_152_code
def yJ0_coder_7d493 : MethodName := ⟨RJ0, "coder", "()B"⟩
abbrev cJ0_isLatin1_aae02 : ByteArray := prog_12_method_154_code
def yJ0_isLatin1_aae02 : MethodName := ⟨RJ0, "isLatin1", "()Z"⟩
abbrev cJ0_checkBoundsBeginEnd_23922 : ByteArray := prog_12_method_158_code
def yJ0_checkBoundsBeginEnd_23922 : MethodName := ⟨RJ0, "checkBoundsBeginEnd", "(III)V"⟩
def RJ1 : String := "java/lang/StringLatin1"
def TJ1 : u_T := fun k => match k with
  | _ => ("", "", "", false)
def tyJ1 : Nat → FieldType := fun k => match k with
  | _ => .int
abbrev wsJ10 : List Cond := u_ws RJ1 TJ1 0
theorem nmJ1 : ∀ a, a < 0 → ∀ b, b < 0 → a ≠ b → (TJ1 a).2.1 ≠ (TJ1 b).2.1 := by decide +kernel
theorem tyJ1_ok : ∀ k, k < 0 → parseFieldDescriptor (TJ1 k).2.2.1 = some (tyJ1 k) := by decide +kernel
abbrev cJ1_canEncode_9a6ad : ByteArray := prog_13_method_4_code
def yJ1_canEncode_9a6ad : MethodName := ⟨RJ1, "canEncode", "(I)Z"⟩
abbrev cJ1_indexOf_4cfef : ByteArray := prog_13_method_22_code
def yJ1_indexOf_4cfef : MethodName := ⟨RJ1, "indexOf", "([BIII)I"⟩
abbrev cJ1_indexOfChar_4cfef : ByteArray := prog_13_method_23_code
def yJ1_indexOfChar_4cfef : MethodName := ⟨RJ1, "indexOfChar", "([BIII)I"⟩
def RJ2 : String := "java/lang/StringUTF16"
def TJ2 : u_T := fun k => match k with
  | _ => ("", "", "", false)
def tyJ2 : Nat → FieldType := fun k => match k with
  | _ => .int
abbrev wsJ20 : List Cond := u_ws RJ2 TJ2 0
theorem nmJ2 : ∀ a, a < 0 → ∀ b, b < 0 → a ≠ b → (TJ2 a).2.1 ≠ (TJ2 b).2.1 := by decide +kernel
theorem tyJ2_ok : ∀ k, k < 0 → parseFieldDescriptor (TJ2 k).2.2.1 = some (tyJ2 k) := by decide +kernel
abbrev cJ2_getChar_3b067 : ByteArray := prog_14_method_5_code
def yJ2_getChar_3b067 : MethodName := ⟨RJ2, "getChar", "([BI)C"⟩
abbrev cJ2_length_9d52b : ByteArray := prog_14_method_6_code
def yJ2_length_9d52b : MethodName := ⟨RJ2, "length", "([B)I"⟩
abbrev cJ2_indexOf_4cfef : ByteArray := prog_14_method_40_code
def yJ2_indexOf_4cfef : MethodName := ⟨RJ2, "indexOf", "([BIII)I"⟩
abbrev cJ2_indexOfChar_4cfef : ByteArray := prog_14_method_47_code
def yJ2_indexOfChar_4cfef : MethodName := ⟨RJ2, "indexOfChar", "([BIII)I"⟩
abbrev cJ2_indexOfCharUnsafe_4cfef : ByteArray := prog_14_method_48_code
def yJ2_indexOfCharUnsafe_4cfef : MethodName := ⟨RJ2, "indexOfCharUnsafe", "([BIII)I"⟩
abbrev cJ2_indexOfSupplementary_4cfef : ByteArray := prog_14_method_49_code
def yJ2_indexOfSupplementary_4cfef : MethodName := ⟨RJ2, "indexOfSupplementary", "([BIII)I"⟩
abbrev cJ2_checkBoundsBeginEnd_d044e : ByteArray := prog_14_method_93_code
def yJ2_checkBoundsBeginEnd_d044e : MethodName := ⟨RJ2, "checkBoundsBeginEnd", "(II[B)V"⟩
def RJ3 : String := "jdk/internal/util/Preconditions"
def TJ3 : u_T := fun k => match k with
  | _ => ("", "", "", false)
def tyJ3 : Nat → FieldType := fun k => match k with
  | _ => .int
abbrev wsJ30 : List Cond := u_ws RJ3 TJ3 0
theorem nmJ3 : ∀ a, a < 0 → ∀ b, b < 0 → a ≠ b → (TJ3 a).2.1 ≠ (TJ3 b).2.1 := by decide +kernel
theorem tyJ3_ok : ∀ k, k < 0 → parseFieldDescriptor (TJ3 k).2.2.1 = some (tyJ3 k) := by decide +kernel
abbrev cJ3_checkFromToIndex_8c36e : ByteArray := prog_15_method_12_code
def yJ3_checkFromToIndex_8c36e : MethodName := ⟨RJ3, "checkFromToIndex", "(IIILjava/util/function/BiFunction;)I"⟩
def RL : String := "LightAsFarAsThePumpLaw"
abbrev cL_law : ByteArray := code
def yL_law : MethodName := ⟨RL, "law", "([I)Z"⟩
end
section
theorem dX0_init_0 : decode cX0_init 0 = .ok (.aload_n 0, 1) := by decide +kernel
theorem dX0_init_1 : decode cX0_init 1 = .ok (.invokespecial 3, 3) := by decide +kernel
theorem dX0_init_4 : decode cX0_init 4 = .ok (.aload_n 0, 1) := by decide +kernel
theorem dX0_init_5 : decode cX0_init 5 = .ok (.iconst 3, 1) := by decide +kernel
theorem dX0_init_6 : decode cX0_init 6 = .ok (.newarray .int, 2) := by decide +kernel
theorem dX0_init_8 : decode cX0_init 8 = .ok (.putfield 11, 3) := by decide +kernel
theorem dX0_init_11 : decode cX0_init 11 = .ok (.aload_n 0, 1) := by decide +kernel
theorem dX0_init_12 : decode cX0_init 12 = .ok (.bipush 7, 2) := by decide +kernel
theorem dX0_init_14 : decode cX0_init 14 = .ok (.newarray .int, 2) := by decide +kernel
theorem dX0_init_16 : decode cX0_init 16 = .ok (.putfield 15, 3) := by decide +kernel
theorem dX0_init_19 : decode cX0_init 19 = .ok (.aload_n 0, 1) := by decide +kernel
theorem dX0_init_20 : decode cX0_init 20 = .ok (.bipush 7, 2) := by decide +kernel
theorem dX0_init_22 : decode cX0_init 22 = .ok (.newarray .int, 2) := by decide +kernel
theorem dX0_init_24 : decode cX0_init 24 = .ok (.putfield 18, 3) := by decide +kernel
theorem dX0_init_27 : decode cX0_init 27 = .ok (.aload_n 0, 1) := by decide +kernel
theorem dX0_init_28 : decode cX0_init 28 = .ok (.bipush 7, 2) := by decide +kernel
theorem dX0_init_30 : decode cX0_init 30 = .ok (.newarray .int, 2) := by decide +kernel
theorem dX0_init_32 : decode cX0_init 32 = .ok (.putfield 21, 3) := by decide +kernel
theorem dX0_init_35 : decode cX0_init 35 = .ok (.aload_n 0, 1) := by decide +kernel
theorem dX0_init_36 : decode cX0_init 36 = .ok (.bipush 7, 2) := by decide +kernel
theorem dX0_init_38 : decode cX0_init 38 = .ok (.newarray .int, 2) := by decide +kernel
theorem dX0_init_40 : decode cX0_init 40 = .ok (.putfield 24, 3) := by decide +kernel
theorem dX0_init_43 : decode cX0_init 43 = .ok (.aload_n 0, 1) := by decide +kernel
theorem dX0_init_44 : decode cX0_init 44 = .ok (.bipush 7, 2) := by decide +kernel
theorem dX0_init_46 : decode cX0_init 46 = .ok (.newarray .int, 2) := by decide +kernel
theorem dX0_init_48 : decode cX0_init 48 = .ok (.putfield 27, 3) := by decide +kernel
theorem dX0_init_51 : decode cX0_init 51 = .ok (.aload_n 0, 1) := by decide +kernel
theorem dX0_init_52 : decode cX0_init 52 = .ok (.getfield 11, 3) := by decide +kernel
theorem dX0_init_55 : decode cX0_init 55 = .ok (.iconst 0, 1) := by decide +kernel
theorem dX0_init_56 : decode cX0_init 56 = .ok (.bipush 20, 2) := by decide +kernel
theorem dX0_init_58 : decode cX0_init 58 = .ok (.invokestatic 30, 3) := by decide +kernel
theorem dX0_init_61 : decode cX0_init 61 = .ok (.aload_n 0, 1) := by decide +kernel
theorem dX0_init_62 : decode cX0_init 62 = .ok (.getfield 11, 3) := by decide +kernel
theorem dX0_init_65 : decode cX0_init 65 = .ok (.iconst 1, 1) := by decide +kernel
theorem dX0_init_66 : decode cX0_init 66 = .ok (.bipush 100, 2) := by decide +kernel
theorem dX0_init_68 : decode cX0_init 68 = .ok (.invokestatic 30, 3) := by decide +kernel
theorem dX0_init_71 : decode cX0_init 71 = .ok (.aload_n 0, 1) := by decide +kernel
theorem dX0_init_72 : decode cX0_init 72 = .ok (.getfield 11, 3) := by decide +kernel
theorem dX0_init_75 : decode cX0_init 75 = .ok (.iconst 2, 1) := by decide +kernel
theorem dX0_init_76 : decode cX0_init 76 = .ok (.iconst 3, 1) := by decide +kernel
theorem dX0_init_77 : decode cX0_init 77 = .ok (.invokestatic 30, 3) := by decide +kernel
theorem dX0_init_80 : decode cX0_init 80 = .ok (.aload_n 0, 1) := by decide +kernel
theorem dX0_init_81 : decode cX0_init 81 = .ok (.iconst 0, 1) := by decide +kernel
theorem dX0_init_82 : decode cX0_init 82 = .ok (.putfield 36, 3) := by decide +kernel
theorem dX0_init_85 : decode cX0_init 85 = .ok (.aload_n 0, 1) := by decide +kernel
theorem dX0_init_86 : decode cX0_init 86 = .ok (.iconst (-1), 1) := by decide +kernel
theorem dX0_init_87 : decode cX0_init 87 = .ok (.putfield 40, 3) := by decide +kernel
theorem dX0_init_90 : decode cX0_init 90 = .ok (.return_, 1) := by decide +kernel
theorem dX0_becomeLike_0 : decode cX0_becomeLike 0 = .ok (.aload_n 1, 1) := by decide +kernel
theorem dX0_becomeLike_1 : decode cX0_becomeLike 1 = .ok (.getfield 11, 3) := by decide +kernel
theorem dX0_becomeLike_4 : decode cX0_becomeLike 4 = .ok (.aload_n 0, 1) := by decide +kernel
theorem dX0_becomeLike_5 : decode cX0_becomeLike 5 = .ok (.getfield 11, 3) := by decide +kernel
theorem dX0_becomeLike_8 : decode cX0_becomeLike 8 = .ok (.invokestatic 43, 3) := by decide +kernel
theorem dX0_becomeLike_11 : decode cX0_becomeLike 11 = .ok (.aload_n 1, 1) := by decide +kernel
theorem dX0_becomeLike_12 : decode cX0_becomeLike 12 = .ok (.getfield 15, 3) := by decide +kernel
theorem dX0_becomeLike_15 : decode cX0_becomeLike 15 = .ok (.aload_n 0, 1) := by decide +kernel
theorem dX0_becomeLike_16 : decode cX0_becomeLike 16 = .ok (.getfield 15, 3) := by decide +kernel
theorem dX0_becomeLike_19 : decode cX0_becomeLike 19 = .ok (.invokestatic 43, 3) := by decide +kernel
theorem dX0_becomeLike_22 : decode cX0_becomeLike 22 = .ok (.aload_n 1, 1) := by decide +kernel
theorem dX0_becomeLike_23 : decode cX0_becomeLike 23 = .ok (.getfield 18, 3) := by decide +kernel
theorem dX0_becomeLike_26 : decode cX0_becomeLike 26 = .ok (.aload_n 0, 1) := by decide +kernel
theorem dX0_becomeLike_27 : decode cX0_becomeLike 27 = .ok (.getfield 18, 3) := by decide +kernel
theorem dX0_becomeLike_30 : decode cX0_becomeLike 30 = .ok (.invokestatic 43, 3) := by decide +kernel
theorem dX0_becomeLike_33 : decode cX0_becomeLike 33 = .ok (.aload_n 1, 1) := by decide +kernel
theorem dX0_becomeLike_34 : decode cX0_becomeLike 34 = .ok (.getfield 21, 3) := by decide +kernel
theorem dX0_becomeLike_37 : decode cX0_becomeLike 37 = .ok (.aload_n 0, 1) := by decide +kernel
theorem dX0_becomeLike_38 : decode cX0_becomeLike 38 = .ok (.getfield 21, 3) := by decide +kernel
theorem dX0_becomeLike_41 : decode cX0_becomeLike 41 = .ok (.invokestatic 43, 3) := by decide +kernel
theorem dX0_becomeLike_44 : decode cX0_becomeLike 44 = .ok (.aload_n 1, 1) := by decide +kernel
theorem dX0_becomeLike_45 : decode cX0_becomeLike 45 = .ok (.getfield 24, 3) := by decide +kernel
theorem dX0_becomeLike_48 : decode cX0_becomeLike 48 = .ok (.aload_n 0, 1) := by decide +kernel
theorem dX0_becomeLike_49 : decode cX0_becomeLike 49 = .ok (.getfield 24, 3) := by decide +kernel
theorem dX0_becomeLike_52 : decode cX0_becomeLike 52 = .ok (.invokestatic 43, 3) := by decide +kernel
theorem dX0_becomeLike_55 : decode cX0_becomeLike 55 = .ok (.aload_n 1, 1) := by decide +kernel
theorem dX0_becomeLike_56 : decode cX0_becomeLike 56 = .ok (.getfield 27, 3) := by decide +kernel
theorem dX0_becomeLike_59 : decode cX0_becomeLike 59 = .ok (.aload_n 0, 1) := by decide +kernel
theorem dX0_becomeLike_60 : decode cX0_becomeLike 60 = .ok (.getfield 27, 3) := by decide +kernel
theorem dX0_becomeLike_63 : decode cX0_becomeLike 63 = .ok (.invokestatic 43, 3) := by decide +kernel
theorem dX0_becomeLike_66 : decode cX0_becomeLike 66 = .ok (.aload_n 0, 1) := by decide +kernel
theorem dX0_becomeLike_67 : decode cX0_becomeLike 67 = .ok (.aload_n 1, 1) := by decide +kernel
theorem dX0_becomeLike_68 : decode cX0_becomeLike 68 = .ok (.getfield 36, 3) := by decide +kernel
theorem dX0_becomeLike_71 : decode cX0_becomeLike 71 = .ok (.putfield 36, 3) := by decide +kernel
theorem dX0_becomeLike_74 : decode cX0_becomeLike 74 = .ok (.aload_n 0, 1) := by decide +kernel
theorem dX0_becomeLike_75 : decode cX0_becomeLike 75 = .ok (.aload_n 1, 1) := by decide +kernel
theorem dX0_becomeLike_76 : decode cX0_becomeLike 76 = .ok (.getfield 40, 3) := by decide +kernel
theorem dX0_becomeLike_79 : decode cX0_becomeLike 79 = .ok (.putfield 40, 3) := by decide +kernel
theorem dX0_becomeLike_82 : decode cX0_becomeLike 82 = .ok (.return_, 1) := by decide +kernel
theorem dX0_pump_0 : decode cX0_pump 0 = .ok (.aload_n 0, 1) := by decide +kernel
theorem dX0_pump_1 : decode cX0_pump 1 = .ok (.getfield 11, 3) := by decide +kernel
theorem dX0_pump_4 : decode cX0_pump 4 = .ok (.iconst 0, 1) := by decide +kernel
theorem dX0_pump_5 : decode cX0_pump 5 = .ok (.invokestatic 47, 3) := by decide +kernel
theorem dX0_pump_8 : decode cX0_pump 8 = .ok (.ireturn, 1) := by decide +kernel
theorem dX0_oil_0 : decode cX0_oil 0 = .ok (.aload_n 0, 1) := by decide +kernel
theorem dX0_oil_1 : decode cX0_oil 1 = .ok (.getfield 11, 3) := by decide +kernel
theorem dX0_oil_4 : decode cX0_oil 4 = .ok (.iconst 1, 1) := by decide +kernel
theorem dX0_oil_5 : decode cX0_oil 5 = .ok (.invokestatic 47, 3) := by decide +kernel
theorem dX0_oil_8 : decode cX0_oil 8 = .ok (.ireturn, 1) := by decide +kernel
theorem dX0_dark_0 : decode cX0_dark 0 = .ok (.aload_n 0, 1) := by decide +kernel
theorem dX0_dark_1 : decode cX0_dark 1 = .ok (.getfield 11, 3) := by decide +kernel
theorem dX0_dark_4 : decode cX0_dark 4 = .ok (.iconst 2, 1) := by decide +kernel
theorem dX0_dark_5 : decode cX0_dark 5 = .ok (.invokestatic 47, 3) := by decide +kernel
theorem dX0_dark_8 : decode cX0_dark 8 = .ok (.ireturn, 1) := by decide +kernel
theorem dX0_knows_0 : decode cX0_knows 0 = .ok (.iload_n 1, 1) := by decide +kernel
theorem dX0_knows_1 : decode cX0_knows 1 = .ok (.ifCond .lt 15, 3) := by decide +kernel
theorem dX0_knows_4 : decode cX0_knows 4 = .ok (.iload_n 1, 1) := by decide +kernel
theorem dX0_knows_5 : decode cX0_knows 5 = .ok (.aload_n 0, 1) := by decide +kernel
theorem dX0_knows_6 : decode cX0_knows 6 = .ok (.getfield 36, 3) := by decide +kernel
theorem dX0_knows_9 : decode cX0_knows 9 = .ok (.if_icmp .ge 7, 3) := by decide +kernel
theorem dX0_knows_12 : decode cX0_knows 12 = .ok (.iconst 1, 1) := by decide +kernel
theorem dX0_knows_13 : decode cX0_knows 13 = .ok (.goto 4, 3) := by decide +kernel
theorem dX0_knows_16 : decode cX0_knows 16 = .ok (.iconst 0, 1) := by decide +kernel
theorem dX0_knows_17 : decode cX0_knows 17 = .ok (.ireturn, 1) := by decide +kernel
theorem dX0_settle_0 : decode cX0_settle 0 = .ok (.iload_n 2, 1) := by decide +kernel
theorem dX0_settle_1 : decode cX0_settle 1 = .ok (.getstatic 51, 3) := by decide +kernel
theorem dX0_settle_4 : decode cX0_settle 4 = .ok (.iload_n 1, 1) := by decide +kernel
theorem dX0_settle_5 : decode cX0_settle 5 = .ok (.invokestatic 47, 3) := by decide +kernel
theorem dX0_settle_8 : decode cX0_settle 8 = .ok (.if_icmp .le 5, 3) := by decide +kernel
theorem dX0_settle_11 : decode cX0_settle 11 = .ok (.iconst 0, 1) := by decide +kernel
theorem dX0_settle_12 : decode cX0_settle 12 = .ok (.ireturn, 1) := by decide +kernel
theorem dX0_settle_13 : decode cX0_settle 13 = .ok (.aload_n 0, 1) := by decide +kernel
theorem dX0_settle_14 : decode cX0_settle 14 = .ok (.getfield 11, 3) := by decide +kernel
theorem dX0_settle_17 : decode cX0_settle 17 = .ok (.iload_n 1, 1) := by decide +kernel
theorem dX0_settle_18 : decode cX0_settle 18 = .ok (.iload_n 2, 1) := by decide +kernel
theorem dX0_settle_19 : decode cX0_settle 19 = .ok (.invokestatic 30, 3) := by decide +kernel
theorem dX0_settle_22 : decode cX0_settle 22 = .ok (.iconst 1, 1) := by decide +kernel
theorem dX0_settle_23 : decode cX0_settle 23 = .ok (.ireturn, 1) := by decide +kernel
theorem dX0_add_0 : decode cX0_add 0 = .ok (.aload_n 0, 1) := by decide +kernel
theorem dX0_add_1 : decode cX0_add 1 = .ok (.getfield 36, 3) := by decide +kernel
theorem dX0_add_4 : decode cX0_add 4 = .ok (.bipush 7, 2) := by decide +kernel
theorem dX0_add_6 : decode cX0_add 6 = .ok (.if_icmp .ge 23, 3) := by decide +kernel
theorem dX0_add_9 : decode cX0_add 9 = .ok (.iload_n 3, 1) := by decide +kernel
theorem dX0_add_10 : decode cX0_add 10 = .ok (.bipush 40, 2) := by decide +kernel
theorem dX0_add_12 : decode cX0_add 12 = .ok (.if_icmp .ge 17, 3) := by decide +kernel
theorem dX0_add_15 : decode cX0_add 15 = .ok (.iload 4, 2) := by decide +kernel
theorem dX0_add_17 : decode cX0_add 17 = .ok (.bipush 40, 2) := by decide +kernel
theorem dX0_add_19 : decode cX0_add 19 = .ok (.if_icmp .ge 10, 3) := by decide +kernel
theorem dX0_add_22 : decode cX0_add 22 = .ok (.iload 5, 2) := by decide +kernel
theorem dX0_add_24 : decode cX0_add 24 = .ok (.bipush 12, 2) := by decide +kernel
theorem dX0_add_26 : decode cX0_add 26 = .ok (.if_icmp .lt 5, 3) := by decide +kernel
theorem dX0_add_29 : decode cX0_add 29 = .ok (.iconst 0, 1) := by decide +kernel
theorem dX0_add_30 : decode cX0_add 30 = .ok (.ireturn, 1) := by decide +kernel
theorem dX0_add_31 : decode cX0_add 31 = .ok (.aload_n 0, 1) := by decide +kernel
theorem dX0_add_32 : decode cX0_add 32 = .ok (.getfield 15, 3) := by decide +kernel
theorem dX0_add_35 : decode cX0_add 35 = .ok (.aload_n 0, 1) := by decide +kernel
theorem dX0_add_36 : decode cX0_add 36 = .ok (.getfield 36, 3) := by decide +kernel
theorem dX0_add_39 : decode cX0_add 39 = .ok (.iload_n 1, 1) := by decide +kernel
theorem dX0_add_40 : decode cX0_add 40 = .ok (.invokestatic 30, 3) := by decide +kernel
theorem dX0_add_43 : decode cX0_add 43 = .ok (.aload_n 0, 1) := by decide +kernel
theorem dX0_add_44 : decode cX0_add 44 = .ok (.getfield 18, 3) := by decide +kernel
theorem dX0_add_47 : decode cX0_add 47 = .ok (.aload_n 0, 1) := by decide +kernel
theorem dX0_add_48 : decode cX0_add 48 = .ok (.getfield 36, 3) := by decide +kernel
theorem dX0_add_51 : decode cX0_add 51 = .ok (.iload_n 2, 1) := by decide +kernel
theorem dX0_add_52 : decode cX0_add 52 = .ok (.invokestatic 30, 3) := by decide +kernel
theorem dX0_add_55 : decode cX0_add 55 = .ok (.aload_n 0, 1) := by decide +kernel
theorem dX0_add_56 : decode cX0_add 56 = .ok (.getfield 21, 3) := by decide +kernel
theorem dX0_add_59 : decode cX0_add 59 = .ok (.aload_n 0, 1) := by decide +kernel
theorem dX0_add_60 : decode cX0_add 60 = .ok (.getfield 36, 3) := by decide +kernel
theorem dX0_add_63 : decode cX0_add 63 = .ok (.iload_n 3, 1) := by decide +kernel
theorem dX0_add_64 : decode cX0_add 64 = .ok (.invokestatic 30, 3) := by decide +kernel
theorem dX0_add_67 : decode cX0_add 67 = .ok (.aload_n 0, 1) := by decide +kernel
theorem dX0_add_68 : decode cX0_add 68 = .ok (.getfield 24, 3) := by decide +kernel
theorem dX0_add_71 : decode cX0_add 71 = .ok (.aload_n 0, 1) := by decide +kernel
theorem dX0_add_72 : decode cX0_add 72 = .ok (.getfield 36, 3) := by decide +kernel
theorem dX0_add_75 : decode cX0_add 75 = .ok (.iload 4, 2) := by decide +kernel
theorem dX0_add_77 : decode cX0_add 77 = .ok (.invokestatic 30, 3) := by decide +kernel
theorem dX0_add_80 : decode cX0_add 80 = .ok (.aload_n 0, 1) := by decide +kernel
theorem dX0_add_81 : decode cX0_add 81 = .ok (.getfield 27, 3) := by decide +kernel
theorem dX0_add_84 : decode cX0_add 84 = .ok (.aload_n 0, 1) := by decide +kernel
theorem dX0_add_85 : decode cX0_add 85 = .ok (.getfield 36, 3) := by decide +kernel
theorem dX0_add_88 : decode cX0_add 88 = .ok (.iload 5, 2) := by decide +kernel
theorem dX0_add_90 : decode cX0_add 90 = .ok (.invokestatic 30, 3) := by decide +kernel
theorem dX0_add_93 : decode cX0_add 93 = .ok (.aload_n 0, 1) := by decide +kernel
theorem dX0_add_94 : decode cX0_add 94 = .ok (.dup, 1) := by decide +kernel
theorem dX0_add_95 : decode cX0_add 95 = .ok (.getfield 36, 3) := by decide +kernel
theorem dX0_add_98 : decode cX0_add 98 = .ok (.iconst 1, 1) := by decide +kernel
theorem dX0_add_99 : decode cX0_add 99 = .ok (.iadd, 1) := by decide +kernel
theorem dX0_add_100 : decode cX0_add 100 = .ok (.putfield 36, 3) := by decide +kernel
theorem dX0_add_103 : decode cX0_add 103 = .ok (.iconst 1, 1) := by decide +kernel
theorem dX0_add_104 : decode cX0_add 104 = .ok (.ireturn, 1) := by decide +kernel
theorem dX0_exchangeHours_0 : decode cX0_exchangeHours 0 = .ok (.aload_n 0, 1) := by decide +kernel
theorem dX0_exchangeHours_1 : decode cX0_exchangeHours 1 = .ok (.iload_n 1, 1) := by decide +kernel
theorem dX0_exchangeHours_2 : decode cX0_exchangeHours 2 = .ok (.invokevirtual 54, 3) := by decide +kernel
theorem dX0_exchangeHours_5 : decode cX0_exchangeHours 5 = .ok (.ifCond .eq 16, 3) := by decide +kernel
theorem dX0_exchangeHours_8 : decode cX0_exchangeHours 8 = .ok (.aload_n 0, 1) := by decide +kernel
theorem dX0_exchangeHours_9 : decode cX0_exchangeHours 9 = .ok (.iload_n 2, 1) := by decide +kernel
theorem dX0_exchangeHours_10 : decode cX0_exchangeHours 10 = .ok (.invokevirtual 54, 3) := by decide +kernel
theorem dX0_exchangeHours_13 : decode cX0_exchangeHours 13 = .ok (.ifCond .eq 8, 3) := by decide +kernel
theorem dX0_exchangeHours_16 : decode cX0_exchangeHours 16 = .ok (.iload_n 1, 1) := by decide +kernel
theorem dX0_exchangeHours_17 : decode cX0_exchangeHours 17 = .ok (.iload_n 2, 1) := by decide +kernel
theorem dX0_exchangeHours_18 : decode cX0_exchangeHours 18 = .ok (.if_icmp .ne 5, 3) := by decide +kernel
theorem dX0_exchangeHours_21 : decode cX0_exchangeHours 21 = .ok (.iconst 0, 1) := by decide +kernel
theorem dX0_exchangeHours_22 : decode cX0_exchangeHours 22 = .ok (.ireturn, 1) := by decide +kernel
theorem dX0_exchangeHours_23 : decode cX0_exchangeHours 23 = .ok (.aload_n 0, 1) := by decide +kernel
theorem dX0_exchangeHours_24 : decode cX0_exchangeHours 24 = .ok (.getfield 27, 3) := by decide +kernel
theorem dX0_exchangeHours_27 : decode cX0_exchangeHours 27 = .ok (.iload_n 1, 1) := by decide +kernel
theorem dX0_exchangeHours_28 : decode cX0_exchangeHours 28 = .ok (.iload_n 2, 1) := by decide +kernel
theorem dX0_exchangeHours_29 : decode cX0_exchangeHours 29 = .ok (.invokestatic 58, 3) := by decide +kernel
theorem dX0_exchangeHours_32 : decode cX0_exchangeHours 32 = .ok (.iconst 1, 1) := by decide +kernel
theorem dX0_exchangeHours_33 : decode cX0_exchangeHours 33 = .ok (.ireturn, 1) := by decide +kernel
theorem dX0_changeHour_0 : decode cX0_changeHour 0 = .ok (.aload_n 0, 1) := by decide +kernel
theorem dX0_changeHour_1 : decode cX0_changeHour 1 = .ok (.iload_n 1, 1) := by decide +kernel
theorem dX0_changeHour_2 : decode cX0_changeHour 2 = .ok (.invokevirtual 54, 3) := by decide +kernel
theorem dX0_changeHour_5 : decode cX0_changeHour 5 = .ok (.ifCond .eq 9, 3) := by decide +kernel
theorem dX0_changeHour_8 : decode cX0_changeHour 8 = .ok (.iload_n 2, 1) := by decide +kernel
theorem dX0_changeHour_9 : decode cX0_changeHour 9 = .ok (.bipush 12, 2) := by decide +kernel
theorem dX0_changeHour_11 : decode cX0_changeHour 11 = .ok (.if_icmp .lt 5, 3) := by decide +kernel
theorem dX0_changeHour_14 : decode cX0_changeHour 14 = .ok (.iconst 0, 1) := by decide +kernel
theorem dX0_changeHour_15 : decode cX0_changeHour 15 = .ok (.ireturn, 1) := by decide +kernel
theorem dX0_changeHour_16 : decode cX0_changeHour 16 = .ok (.aload_n 0, 1) := by decide +kernel
theorem dX0_changeHour_17 : decode cX0_changeHour 17 = .ok (.getfield 27, 3) := by decide +kernel
theorem dX0_changeHour_20 : decode cX0_changeHour 20 = .ok (.iload_n 1, 1) := by decide +kernel
theorem dX0_changeHour_21 : decode cX0_changeHour 21 = .ok (.iload_n 2, 1) := by decide +kernel
theorem dX0_changeHour_22 : decode cX0_changeHour 22 = .ok (.invokestatic 30, 3) := by decide +kernel
theorem dX0_changeHour_25 : decode cX0_changeHour 25 = .ok (.iconst 1, 1) := by decide +kernel
theorem dX0_changeHour_26 : decode cX0_changeHour 26 = .ok (.ireturn, 1) := by decide +kernel
theorem dX0_sendHome_0 : decode cX0_sendHome 0 = .ok (.iload_n 1, 1) := by decide +kernel
theorem dX0_sendHome_1 : decode cX0_sendHome 1 = .ok (.istore_n 2, 1) := by decide +kernel
theorem dX0_sendHome_2 : decode cX0_sendHome 2 = .ok (.iload_n 2, 1) := by decide +kernel
theorem dX0_sendHome_3 : decode cX0_sendHome 3 = .ok (.aload_n 0, 1) := by decide +kernel
theorem dX0_sendHome_4 : decode cX0_sendHome 4 = .ok (.getfield 36, 3) := by decide +kernel
theorem dX0_sendHome_7 : decode cX0_sendHome 7 = .ok (.iconst 1, 1) := by decide +kernel
theorem dX0_sendHome_8 : decode cX0_sendHome 8 = .ok (.isub, 1) := by decide +kernel
theorem dX0_sendHome_9 : decode cX0_sendHome 9 = .ok (.if_icmp .ge 99, 3) := by decide +kernel
theorem dX0_sendHome_12 : decode cX0_sendHome 12 = .ok (.aload_n 0, 1) := by decide +kernel
theorem dX0_sendHome_13 : decode cX0_sendHome 13 = .ok (.getfield 15, 3) := by decide +kernel
theorem dX0_sendHome_16 : decode cX0_sendHome 16 = .ok (.iload_n 2, 1) := by decide +kernel
theorem dX0_sendHome_17 : decode cX0_sendHome 17 = .ok (.aload_n 0, 1) := by decide +kernel
theorem dX0_sendHome_18 : decode cX0_sendHome 18 = .ok (.getfield 15, 3) := by decide +kernel
theorem dX0_sendHome_21 : decode cX0_sendHome 21 = .ok (.iload_n 2, 1) := by decide +kernel
theorem dX0_sendHome_22 : decode cX0_sendHome 22 = .ok (.iconst 1, 1) := by decide +kernel
theorem dX0_sendHome_23 : decode cX0_sendHome 23 = .ok (.iadd, 1) := by decide +kernel
theorem dX0_sendHome_24 : decode cX0_sendHome 24 = .ok (.invokestatic 47, 3) := by decide +kernel
theorem dX0_sendHome_27 : decode cX0_sendHome 27 = .ok (.invokestatic 30, 3) := by decide +kernel
theorem dX0_sendHome_30 : decode cX0_sendHome 30 = .ok (.aload_n 0, 1) := by decide +kernel
theorem dX0_sendHome_31 : decode cX0_sendHome 31 = .ok (.getfield 18, 3) := by decide +kernel
theorem dX0_sendHome_34 : decode cX0_sendHome 34 = .ok (.iload_n 2, 1) := by decide +kernel
theorem dX0_sendHome_35 : decode cX0_sendHome 35 = .ok (.aload_n 0, 1) := by decide +kernel
theorem dX0_sendHome_36 : decode cX0_sendHome 36 = .ok (.getfield 18, 3) := by decide +kernel
theorem dX0_sendHome_39 : decode cX0_sendHome 39 = .ok (.iload_n 2, 1) := by decide +kernel
theorem dX0_sendHome_40 : decode cX0_sendHome 40 = .ok (.iconst 1, 1) := by decide +kernel
theorem dX0_sendHome_41 : decode cX0_sendHome 41 = .ok (.iadd, 1) := by decide +kernel
theorem dX0_sendHome_42 : decode cX0_sendHome 42 = .ok (.invokestatic 47, 3) := by decide +kernel
theorem dX0_sendHome_45 : decode cX0_sendHome 45 = .ok (.invokestatic 30, 3) := by decide +kernel
theorem dX0_sendHome_48 : decode cX0_sendHome 48 = .ok (.aload_n 0, 1) := by decide +kernel
theorem dX0_sendHome_49 : decode cX0_sendHome 49 = .ok (.getfield 21, 3) := by decide +kernel
theorem dX0_sendHome_52 : decode cX0_sendHome 52 = .ok (.iload_n 2, 1) := by decide +kernel
theorem dX0_sendHome_53 : decode cX0_sendHome 53 = .ok (.aload_n 0, 1) := by decide +kernel
theorem dX0_sendHome_54 : decode cX0_sendHome 54 = .ok (.getfield 21, 3) := by decide +kernel
theorem dX0_sendHome_57 : decode cX0_sendHome 57 = .ok (.iload_n 2, 1) := by decide +kernel
theorem dX0_sendHome_58 : decode cX0_sendHome 58 = .ok (.iconst 1, 1) := by decide +kernel
theorem dX0_sendHome_59 : decode cX0_sendHome 59 = .ok (.iadd, 1) := by decide +kernel
theorem dX0_sendHome_60 : decode cX0_sendHome 60 = .ok (.invokestatic 47, 3) := by decide +kernel
theorem dX0_sendHome_63 : decode cX0_sendHome 63 = .ok (.invokestatic 30, 3) := by decide +kernel
theorem dX0_sendHome_66 : decode cX0_sendHome 66 = .ok (.aload_n 0, 1) := by decide +kernel
theorem dX0_sendHome_67 : decode cX0_sendHome 67 = .ok (.getfield 24, 3) := by decide +kernel
theorem dX0_sendHome_70 : decode cX0_sendHome 70 = .ok (.iload_n 2, 1) := by decide +kernel
theorem dX0_sendHome_71 : decode cX0_sendHome 71 = .ok (.aload_n 0, 1) := by decide +kernel
theorem dX0_sendHome_72 : decode cX0_sendHome 72 = .ok (.getfield 24, 3) := by decide +kernel
theorem dX0_sendHome_75 : decode cX0_sendHome 75 = .ok (.iload_n 2, 1) := by decide +kernel
theorem dX0_sendHome_76 : decode cX0_sendHome 76 = .ok (.iconst 1, 1) := by decide +kernel
theorem dX0_sendHome_77 : decode cX0_sendHome 77 = .ok (.iadd, 1) := by decide +kernel
theorem dX0_sendHome_78 : decode cX0_sendHome 78 = .ok (.invokestatic 47, 3) := by decide +kernel
theorem dX0_sendHome_81 : decode cX0_sendHome 81 = .ok (.invokestatic 30, 3) := by decide +kernel
theorem dX0_sendHome_84 : decode cX0_sendHome 84 = .ok (.aload_n 0, 1) := by decide +kernel
theorem dX0_sendHome_85 : decode cX0_sendHome 85 = .ok (.getfield 27, 3) := by decide +kernel
theorem dX0_sendHome_88 : decode cX0_sendHome 88 = .ok (.iload_n 2, 1) := by decide +kernel
theorem dX0_sendHome_89 : decode cX0_sendHome 89 = .ok (.aload_n 0, 1) := by decide +kernel
theorem dX0_sendHome_90 : decode cX0_sendHome 90 = .ok (.getfield 27, 3) := by decide +kernel
theorem dX0_sendHome_93 : decode cX0_sendHome 93 = .ok (.iload_n 2, 1) := by decide +kernel
theorem dX0_sendHome_94 : decode cX0_sendHome 94 = .ok (.iconst 1, 1) := by decide +kernel
theorem dX0_sendHome_95 : decode cX0_sendHome 95 = .ok (.iadd, 1) := by decide +kernel
theorem dX0_sendHome_96 : decode cX0_sendHome 96 = .ok (.invokestatic 47, 3) := by decide +kernel
theorem dX0_sendHome_99 : decode cX0_sendHome 99 = .ok (.invokestatic 30, 3) := by decide +kernel
theorem dX0_sendHome_102 : decode cX0_sendHome 102 = .ok (.iinc 2 1, 3) := by decide +kernel
theorem dX0_sendHome_105 : decode cX0_sendHome 105 = .ok (.goto (-103), 3) := by decide +kernel
theorem dX0_sendHome_108 : decode cX0_sendHome 108 = .ok (.aload_n 0, 1) := by decide +kernel
theorem dX0_sendHome_109 : decode cX0_sendHome 109 = .ok (.iload_n 1, 1) := by decide +kernel
theorem dX0_sendHome_110 : decode cX0_sendHome 110 = .ok (.invokevirtual 54, 3) := by decide +kernel
theorem dX0_sendHome_113 : decode cX0_sendHome 113 = .ok (.ifCond .eq 13, 3) := by decide +kernel
theorem dX0_sendHome_116 : decode cX0_sendHome 116 = .ok (.aload_n 0, 1) := by decide +kernel
theorem dX0_sendHome_117 : decode cX0_sendHome 117 = .ok (.dup, 1) := by decide +kernel
theorem dX0_sendHome_118 : decode cX0_sendHome 118 = .ok (.getfield 36, 3) := by decide +kernel
theorem dX0_sendHome_121 : decode cX0_sendHome 121 = .ok (.iconst 1, 1) := by decide +kernel
theorem dX0_sendHome_122 : decode cX0_sendHome 122 = .ok (.isub, 1) := by decide +kernel
theorem dX0_sendHome_123 : decode cX0_sendHome 123 = .ok (.putfield 36, 3) := by decide +kernel
theorem dX0_sendHome_126 : decode cX0_sendHome 126 = .ok (.return_, 1) := by decide +kernel
theorem dX0_drawHours_0 : decode cX0_drawHours 0 = .ok (.iload_n 1, 1) := by decide +kernel
theorem dX0_drawHours_1 : decode cX0_drawHours 1 = .ok (.istore_n 2, 1) := by decide +kernel
theorem dX0_drawHours_2 : decode cX0_drawHours 2 = .ok (.iconst 0, 1) := by decide +kernel
theorem dX0_drawHours_3 : decode cX0_drawHours 3 = .ok (.istore_n 3, 1) := by decide +kernel
theorem dX0_drawHours_4 : decode cX0_drawHours 4 = .ok (.iload_n 3, 1) := by decide +kernel
theorem dX0_drawHours_5 : decode cX0_drawHours 5 = .ok (.aload_n 0, 1) := by decide +kernel
theorem dX0_drawHours_6 : decode cX0_drawHours 6 = .ok (.getfield 36, 3) := by decide +kernel
theorem dX0_drawHours_9 : decode cX0_drawHours 9 = .ok (.if_icmp .ge 36, 3) := by decide +kernel
theorem dX0_drawHours_12 : decode cX0_drawHours 12 = .ok (.iload_n 2, 1) := by decide +kernel
theorem dX0_drawHours_13 : decode cX0_drawHours 13 = .ok (.ldc 61, 2) := by decide +kernel
theorem dX0_drawHours_15 : decode cX0_drawHours 15 = .ok (.imul, 1) := by decide +kernel
theorem dX0_drawHours_16 : decode cX0_drawHours 16 = .ok (.ldc 62, 2) := by decide +kernel
theorem dX0_drawHours_18 : decode cX0_drawHours 18 = .ok (.iadd, 1) := by decide +kernel
theorem dX0_drawHours_19 : decode cX0_drawHours 19 = .ok (.istore_n 2, 1) := by decide +kernel
theorem dX0_drawHours_20 : decode cX0_drawHours 20 = .ok (.aload_n 0, 1) := by decide +kernel
theorem dX0_drawHours_21 : decode cX0_drawHours 21 = .ok (.getfield 27, 3) := by decide +kernel
theorem dX0_drawHours_24 : decode cX0_drawHours 24 = .ok (.iload_n 3, 1) := by decide +kernel
theorem dX0_drawHours_25 : decode cX0_drawHours 25 = .ok (.iload_n 2, 1) := by decide +kernel
theorem dX0_drawHours_26 : decode cX0_drawHours 26 = .ok (.ldc 65, 2) := by decide +kernel
theorem dX0_drawHours_28 : decode cX0_drawHours 28 = .ok (.iand, 1) := by decide +kernel
theorem dX0_drawHours_29 : decode cX0_drawHours 29 = .ok (.sipush 256, 3) := by decide +kernel
theorem dX0_drawHours_32 : decode cX0_drawHours 32 = .ok (.idiv, 1) := by decide +kernel
theorem dX0_drawHours_33 : decode cX0_drawHours 33 = .ok (.bipush 12, 2) := by decide +kernel
theorem dX0_drawHours_35 : decode cX0_drawHours 35 = .ok (.irem, 1) := by decide +kernel
theorem dX0_drawHours_36 : decode cX0_drawHours 36 = .ok (.invokestatic 30, 3) := by decide +kernel
theorem dX0_drawHours_39 : decode cX0_drawHours 39 = .ok (.iinc 3 1, 3) := by decide +kernel
theorem dX0_drawHours_42 : decode cX0_drawHours 42 = .ok (.goto (-38), 3) := by decide +kernel
theorem dX0_drawHours_45 : decode cX0_drawHours 45 = .ok (.iload_n 2, 1) := by decide +kernel
theorem dX0_drawHours_46 : decode cX0_drawHours 46 = .ok (.ireturn, 1) := by decide +kernel
theorem dX0_stepsOf_0 : decode cX0_stepsOf 0 = .ok (.aload_n 0, 1) := by decide +kernel
theorem dX0_stepsOf_1 : decode cX0_stepsOf 1 = .ok (.getfield 21, 3) := by decide +kernel
theorem dX0_stepsOf_4 : decode cX0_stepsOf 4 = .ok (.iload_n 1, 1) := by decide +kernel
theorem dX0_stepsOf_5 : decode cX0_stepsOf 5 = .ok (.invokestatic 47, 3) := by decide +kernel
theorem dX0_stepsOf_8 : decode cX0_stepsOf 8 = .ok (.aload_n 0, 1) := by decide +kernel
theorem dX0_stepsOf_9 : decode cX0_stepsOf 9 = .ok (.getfield 24, 3) := by decide +kernel
theorem dX0_stepsOf_12 : decode cX0_stepsOf 12 = .ok (.iload_n 1, 1) := by decide +kernel
theorem dX0_stepsOf_13 : decode cX0_stepsOf 13 = .ok (.invokestatic 47, 3) := by decide +kernel
theorem dX0_stepsOf_16 : decode cX0_stepsOf 16 = .ok (.isub, 1) := by decide +kernel
theorem dX0_stepsOf_17 : decode cX0_stepsOf 17 = .ok (.invokestatic 66, 3) := by decide +kernel
theorem dX0_stepsOf_20 : decode cX0_stepsOf 20 = .ok (.ireturn, 1) := by decide +kernel
theorem dX0_allSteps_0 : decode cX0_allSteps 0 = .ok (.iconst 0, 1) := by decide +kernel
theorem dX0_allSteps_1 : decode cX0_allSteps 1 = .ok (.istore_n 1, 1) := by decide +kernel
theorem dX0_allSteps_2 : decode cX0_allSteps 2 = .ok (.iconst 0, 1) := by decide +kernel
theorem dX0_allSteps_3 : decode cX0_allSteps 3 = .ok (.istore_n 2, 1) := by decide +kernel
theorem dX0_allSteps_4 : decode cX0_allSteps 4 = .ok (.iload_n 2, 1) := by decide +kernel
theorem dX0_allSteps_5 : decode cX0_allSteps 5 = .ok (.aload_n 0, 1) := by decide +kernel
theorem dX0_allSteps_6 : decode cX0_allSteps 6 = .ok (.getfield 36, 3) := by decide +kernel
theorem dX0_allSteps_9 : decode cX0_allSteps 9 = .ok (.if_icmp .ge 17, 3) := by decide +kernel
theorem dX0_allSteps_12 : decode cX0_allSteps 12 = .ok (.iload_n 1, 1) := by decide +kernel
theorem dX0_allSteps_13 : decode cX0_allSteps 13 = .ok (.aload_n 0, 1) := by decide +kernel
theorem dX0_allSteps_14 : decode cX0_allSteps 14 = .ok (.iload_n 2, 1) := by decide +kernel
theorem dX0_allSteps_15 : decode cX0_allSteps 15 = .ok (.invokevirtual 72, 3) := by decide +kernel
theorem dX0_allSteps_18 : decode cX0_allSteps 18 = .ok (.iadd, 1) := by decide +kernel
theorem dX0_allSteps_19 : decode cX0_allSteps 19 = .ok (.istore_n 1, 1) := by decide +kernel
theorem dX0_allSteps_20 : decode cX0_allSteps 20 = .ok (.iinc 2 1, 3) := by decide +kernel
theorem dX0_allSteps_23 : decode cX0_allSteps 23 = .ok (.goto (-19), 3) := by decide +kernel
theorem dX0_allSteps_26 : decode cX0_allSteps 26 = .ok (.iload_n 1, 1) := by decide +kernel
theorem dX0_allSteps_27 : decode cX0_allSteps 27 = .ok (.ireturn, 1) := by decide +kernel
theorem dX0_anybodyWithin_0 : decode cX0_anybodyWithin 0 = .ok (.iconst 0, 1) := by decide +kernel
theorem dX0_anybodyWithin_1 : decode cX0_anybodyWithin 1 = .ok (.istore_n 3, 1) := by decide +kernel
theorem dX0_anybodyWithin_2 : decode cX0_anybodyWithin 2 = .ok (.iload_n 3, 1) := by decide +kernel
theorem dX0_anybodyWithin_3 : decode cX0_anybodyWithin 3 = .ok (.aload_n 0, 1) := by decide +kernel
theorem dX0_anybodyWithin_4 : decode cX0_anybodyWithin 4 = .ok (.getfield 36, 3) := by decide +kernel
theorem dX0_anybodyWithin_7 : decode cX0_anybodyWithin 7 = .ok (.if_icmp .ge 45, 3) := by decide +kernel
theorem dX0_anybodyWithin_10 : decode cX0_anybodyWithin 10 = .ok (.aload_n 0, 1) := by decide +kernel
theorem dX0_anybodyWithin_11 : decode cX0_anybodyWithin 11 = .ok (.getfield 21, 3) := by decide +kernel
theorem dX0_anybodyWithin_14 : decode cX0_anybodyWithin 14 = .ok (.iload_n 3, 1) := by decide +kernel
theorem dX0_anybodyWithin_15 : decode cX0_anybodyWithin 15 = .ok (.invokestatic 47, 3) := by decide +kernel
theorem dX0_anybodyWithin_18 : decode cX0_anybodyWithin 18 = .ok (.iload_n 2, 1) := by decide +kernel
theorem dX0_anybodyWithin_19 : decode cX0_anybodyWithin 19 = .ok (.isub, 1) := by decide +kernel
theorem dX0_anybodyWithin_20 : decode cX0_anybodyWithin 20 = .ok (.invokestatic 66, 3) := by decide +kernel
theorem dX0_anybodyWithin_23 : decode cX0_anybodyWithin 23 = .ok (.iload_n 1, 1) := by decide +kernel
theorem dX0_anybodyWithin_24 : decode cX0_anybodyWithin 24 = .ok (.if_icmp .le 20, 3) := by decide +kernel
theorem dX0_anybodyWithin_27 : decode cX0_anybodyWithin 27 = .ok (.aload_n 0, 1) := by decide +kernel
theorem dX0_anybodyWithin_28 : decode cX0_anybodyWithin 28 = .ok (.getfield 24, 3) := by decide +kernel
theorem dX0_anybodyWithin_31 : decode cX0_anybodyWithin 31 = .ok (.iload_n 3, 1) := by decide +kernel
theorem dX0_anybodyWithin_32 : decode cX0_anybodyWithin 32 = .ok (.invokestatic 47, 3) := by decide +kernel
theorem dX0_anybodyWithin_35 : decode cX0_anybodyWithin 35 = .ok (.iload_n 2, 1) := by decide +kernel
theorem dX0_anybodyWithin_36 : decode cX0_anybodyWithin 36 = .ok (.isub, 1) := by decide +kernel
theorem dX0_anybodyWithin_37 : decode cX0_anybodyWithin 37 = .ok (.invokestatic 66, 3) := by decide +kernel
theorem dX0_anybodyWithin_40 : decode cX0_anybodyWithin 40 = .ok (.iload_n 1, 1) := by decide +kernel
theorem dX0_anybodyWithin_41 : decode cX0_anybodyWithin 41 = .ok (.if_icmp .gt 5, 3) := by decide +kernel
theorem dX0_anybodyWithin_44 : decode cX0_anybodyWithin 44 = .ok (.iconst 1, 1) := by decide +kernel
theorem dX0_anybodyWithin_45 : decode cX0_anybodyWithin 45 = .ok (.ireturn, 1) := by decide +kernel
theorem dX0_anybodyWithin_46 : decode cX0_anybodyWithin 46 = .ok (.iinc 3 1, 3) := by decide +kernel
theorem dX0_anybodyWithin_49 : decode cX0_anybodyWithin 49 = .ok (.goto (-47), 3) := by decide +kernel
theorem dX0_anybodyWithin_52 : decode cX0_anybodyWithin 52 = .ok (.iconst 0, 1) := by decide +kernel
theorem dX0_anybodyWithin_53 : decode cX0_anybodyWithin 53 = .ok (.ireturn, 1) := by decide +kernel
theorem dX0_fetches_0 : decode cX0_fetches 0 = .ok (.aload_n 0, 1) := by decide +kernel
theorem dX0_fetches_1 : decode cX0_fetches 1 = .ok (.getfield 15, 3) := by decide +kernel
theorem dX0_fetches_4 : decode cX0_fetches 4 = .ok (.iload_n 1, 1) := by decide +kernel
theorem dX0_fetches_5 : decode cX0_fetches 5 = .ok (.invokestatic 47, 3) := by decide +kernel
theorem dX0_fetches_8 : decode cX0_fetches 8 = .ok (.tableswitch 45 1 3 #[28, 30, 33], 28) := by decide +kernel
theorem dX0_fetches_36 : decode cX0_fetches 36 = .ok (.iconst 0, 1) := by decide +kernel
theorem dX0_fetches_37 : decode cX0_fetches 37 = .ok (.ireturn, 1) := by decide +kernel
theorem dX0_fetches_38 : decode cX0_fetches 38 = .ok (.bipush 39, 2) := by decide +kernel
theorem dX0_fetches_40 : decode cX0_fetches 40 = .ok (.ireturn, 1) := by decide +kernel
theorem dX0_fetches_41 : decode cX0_fetches 41 = .ok (.bipush 6, 2) := by decide +kernel
theorem dX0_fetches_43 : decode cX0_fetches 43 = .ok (.aload_n 0, 1) := by decide +kernel
theorem dX0_fetches_44 : decode cX0_fetches 44 = .ok (.getfield 18, 3) := by decide +kernel
theorem dX0_fetches_47 : decode cX0_fetches 47 = .ok (.iload_n 1, 1) := by decide +kernel
theorem dX0_fetches_48 : decode cX0_fetches 48 = .ok (.invokestatic 47, 3) := by decide +kernel
theorem dX0_fetches_51 : decode cX0_fetches 51 = .ok (.iadd, 1) := by decide +kernel
theorem dX0_fetches_52 : decode cX0_fetches 52 = .ok (.ireturn, 1) := by decide +kernel
theorem dX0_fetches_53 : decode cX0_fetches 53 = .ok (.bipush 6, 2) := by decide +kernel
theorem dX0_fetches_55 : decode cX0_fetches 55 = .ok (.ireturn, 1) := by decide +kernel
theorem dX0_darkStepCosts_0 : decode cX0_darkStepCosts 0 = .ok (.aload_n 0, 1) := by decide +kernel
theorem dX0_darkStepCosts_1 : decode cX0_darkStepCosts 1 = .ok (.getfield 15, 3) := by decide +kernel
theorem dX0_darkStepCosts_4 : decode cX0_darkStepCosts 4 = .ok (.iload_n 1, 1) := by decide +kernel
theorem dX0_darkStepCosts_5 : decode cX0_darkStepCosts 5 = .ok (.invokestatic 47, 3) := by decide +kernel
theorem dX0_darkStepCosts_8 : decode cX0_darkStepCosts 8 = .ok (.tableswitch 59 1 5 #[36, 43, 50, 57, 57], 36) := by decide +kernel
theorem dX0_darkStepCosts_44 : decode cX0_darkStepCosts 44 = .ok (.aload_n 0, 1) := by decide +kernel
theorem dX0_darkStepCosts_45 : decode cX0_darkStepCosts 45 = .ok (.invokevirtual 75, 3) := by decide +kernel
theorem dX0_darkStepCosts_48 : decode cX0_darkStepCosts 48 = .ok (.iconst 2, 1) := by decide +kernel
theorem dX0_darkStepCosts_49 : decode cX0_darkStepCosts 49 = .ok (.idiv, 1) := by decide +kernel
theorem dX0_darkStepCosts_50 : decode cX0_darkStepCosts 50 = .ok (.ireturn, 1) := by decide +kernel
theorem dX0_darkStepCosts_51 : decode cX0_darkStepCosts 51 = .ok (.iconst 2, 1) := by decide +kernel
theorem dX0_darkStepCosts_52 : decode cX0_darkStepCosts 52 = .ok (.aload_n 0, 1) := by decide +kernel
theorem dX0_darkStepCosts_53 : decode cX0_darkStepCosts 53 = .ok (.invokevirtual 75, 3) := by decide +kernel
theorem dX0_darkStepCosts_56 : decode cX0_darkStepCosts 56 = .ok (.imul, 1) := by decide +kernel
theorem dX0_darkStepCosts_57 : decode cX0_darkStepCosts 57 = .ok (.ireturn, 1) := by decide +kernel
theorem dX0_darkStepCosts_58 : decode cX0_darkStepCosts 58 = .ok (.aload_n 0, 1) := by decide +kernel
theorem dX0_darkStepCosts_59 : decode cX0_darkStepCosts 59 = .ok (.invokevirtual 75, 3) := by decide +kernel
theorem dX0_darkStepCosts_62 : decode cX0_darkStepCosts 62 = .ok (.iconst 1, 1) := by decide +kernel
theorem dX0_darkStepCosts_63 : decode cX0_darkStepCosts 63 = .ok (.iadd, 1) := by decide +kernel
theorem dX0_darkStepCosts_64 : decode cX0_darkStepCosts 64 = .ok (.ireturn, 1) := by decide +kernel
theorem dX0_darkStepCosts_65 : decode cX0_darkStepCosts 65 = .ok (.iconst 0, 1) := by decide +kernel
theorem dX0_darkStepCosts_66 : decode cX0_darkStepCosts 66 = .ok (.ireturn, 1) := by decide +kernel
theorem dX0_darkStepCosts_67 : decode cX0_darkStepCosts 67 = .ok (.aload_n 0, 1) := by decide +kernel
theorem dX0_darkStepCosts_68 : decode cX0_darkStepCosts 68 = .ok (.invokevirtual 75, 3) := by decide +kernel
theorem dX0_darkStepCosts_71 : decode cX0_darkStepCosts 71 = .ok (.ireturn, 1) := by decide +kernel
theorem dX0_carriesTo_0 : decode cX0_carriesTo 0 = .ok (.aload_n 0, 1) := by decide +kernel
theorem dX0_carriesTo_1 : decode cX0_carriesTo 1 = .ok (.getfield 24, 3) := by decide +kernel
theorem dX0_carriesTo_4 : decode cX0_carriesTo 4 = .ok (.iload_n 1, 1) := by decide +kernel
theorem dX0_carriesTo_5 : decode cX0_carriesTo 5 = .ok (.invokestatic 47, 3) := by decide +kernel
theorem dX0_carriesTo_8 : decode cX0_carriesTo 8 = .ok (.istore_n 3, 1) := by decide +kernel
theorem dX0_carriesTo_9 : decode cX0_carriesTo 9 = .ok (.aload_n 0, 1) := by decide +kernel
theorem dX0_carriesTo_10 : decode cX0_carriesTo 10 = .ok (.getfield 18, 3) := by decide +kernel
theorem dX0_carriesTo_13 : decode cX0_carriesTo 13 = .ok (.iload_n 1, 1) := by decide +kernel
theorem dX0_carriesTo_14 : decode cX0_carriesTo 14 = .ok (.invokestatic 47, 3) := by decide +kernel
theorem dX0_carriesTo_17 : decode cX0_carriesTo 17 = .ok (.istore 4, 2) := by decide +kernel
theorem dX0_carriesTo_19 : decode cX0_carriesTo 19 = .ok (.aload_n 0, 1) := by decide +kernel
theorem dX0_carriesTo_20 : decode cX0_carriesTo 20 = .ok (.getfield 15, 3) := by decide +kernel
theorem dX0_carriesTo_23 : decode cX0_carriesTo 23 = .ok (.iload_n 1, 1) := by decide +kernel
theorem dX0_carriesTo_24 : decode cX0_carriesTo 24 = .ok (.invokestatic 47, 3) := by decide +kernel
theorem dX0_carriesTo_27 : decode cX0_carriesTo 27 = .ok (.lookupswitch 52 #[(1, 25), (5, 50)], 25) := by decide +kernel
theorem dX0_carriesTo_52 : decode cX0_carriesTo 52 = .ok (.iload_n 2, 1) := by decide +kernel
theorem dX0_carriesTo_53 : decode cX0_carriesTo 53 = .ok (.iload_n 3, 1) := by decide +kernel
theorem dX0_carriesTo_54 : decode cX0_carriesTo 54 = .ok (.if_icmp .gt 14, 3) := by decide +kernel
theorem dX0_carriesTo_57 : decode cX0_carriesTo 57 = .ok (.iload_n 2, 1) := by decide +kernel
theorem dX0_carriesTo_58 : decode cX0_carriesTo 58 = .ok (.iload_n 3, 1) := by decide +kernel
theorem dX0_carriesTo_59 : decode cX0_carriesTo 59 = .ok (.iload 4, 2) := by decide +kernel
theorem dX0_carriesTo_61 : decode cX0_carriesTo 61 = .ok (.isub, 1) := by decide +kernel
theorem dX0_carriesTo_62 : decode cX0_carriesTo 62 = .ok (.invokestatic 79, 3) := by decide +kernel
theorem dX0_carriesTo_65 : decode cX0_carriesTo 65 = .ok (.goto 11, 3) := by decide +kernel
theorem dX0_carriesTo_68 : decode cX0_carriesTo 68 = .ok (.iload_n 2, 1) := by decide +kernel
theorem dX0_carriesTo_69 : decode cX0_carriesTo 69 = .ok (.iload_n 3, 1) := by decide +kernel
theorem dX0_carriesTo_70 : decode cX0_carriesTo 70 = .ok (.iload 4, 2) := by decide +kernel
theorem dX0_carriesTo_72 : decode cX0_carriesTo 72 = .ok (.iadd, 1) := by decide +kernel
theorem dX0_carriesTo_73 : decode cX0_carriesTo 73 = .ok (.invokestatic 83, 3) := by decide +kernel
theorem dX0_carriesTo_76 : decode cX0_carriesTo 76 = .ok (.ireturn, 1) := by decide +kernel
theorem dX0_carriesTo_77 : decode cX0_carriesTo 77 = .ok (.iload_n 2, 1) := by decide +kernel
theorem dX0_carriesTo_78 : decode cX0_carriesTo 78 = .ok (.ireturn, 1) := by decide +kernel
theorem dX0_carriesTo_79 : decode cX0_carriesTo 79 = .ok (.iload_n 3, 1) := by decide +kernel
theorem dX0_carriesTo_80 : decode cX0_carriesTo 80 = .ok (.ireturn, 1) := by decide +kernel
theorem dX0_bringsTo_0 : decode cX0_bringsTo 0 = .ok (.aload_n 0, 1) := by decide +kernel
theorem dX0_bringsTo_1 : decode cX0_bringsTo 1 = .ok (.getfield 15, 3) := by decide +kernel
theorem dX0_bringsTo_4 : decode cX0_bringsTo 4 = .ok (.iload_n 1, 1) := by decide +kernel
theorem dX0_bringsTo_5 : decode cX0_bringsTo 5 = .ok (.invokestatic 47, 3) := by decide +kernel
theorem dX0_bringsTo_8 : decode cX0_bringsTo 8 = .ok (.lookupswitch 42 #[(3, 28), (4, 33)], 28) := by decide +kernel
theorem dX0_bringsTo_36 : decode cX0_bringsTo 36 = .ok (.aload_n 0, 1) := by decide +kernel
theorem dX0_bringsTo_37 : decode cX0_bringsTo 37 = .ok (.invokevirtual 86, 3) := by decide +kernel
theorem dX0_bringsTo_40 : decode cX0_bringsTo 40 = .ok (.ireturn, 1) := by decide +kernel
theorem dX0_bringsTo_41 : decode cX0_bringsTo 41 = .ok (.aload_n 0, 1) := by decide +kernel
theorem dX0_bringsTo_42 : decode cX0_bringsTo 42 = .ok (.getfield 21, 3) := by decide +kernel
theorem dX0_bringsTo_45 : decode cX0_bringsTo 45 = .ok (.iload_n 1, 1) := by decide +kernel
theorem dX0_bringsTo_46 : decode cX0_bringsTo 46 = .ok (.invokestatic 47, 3) := by decide +kernel
theorem dX0_bringsTo_49 : decode cX0_bringsTo 49 = .ok (.ireturn, 1) := by decide +kernel
theorem dX0_bringsTo_50 : decode cX0_bringsTo 50 = .ok (.iload_n 2, 1) := by decide +kernel
theorem dX0_bringsTo_51 : decode cX0_bringsTo 51 = .ok (.ireturn, 1) := by decide +kernel
theorem dX1_init_0 : decode cX1_init 0 = .ok (.aload_n 0, 1) := by decide +kernel
theorem dX1_init_1 : decode cX1_init 1 = .ok (.invokespecial 3, 3) := by decide +kernel
theorem dX1_init_4 : decode cX1_init 4 = .ok (.aload_n 0, 1) := by decide +kernel
theorem dX1_init_5 : decode cX1_init 5 = .ok (.bipush 7, 2) := by decide +kernel
theorem dX1_init_7 : decode cX1_init 7 = .ok (.newarray .int, 2) := by decide +kernel
theorem dX1_init_9 : decode cX1_init 9 = .ok (.putfield 9, 3) := by decide +kernel
theorem dX1_init_12 : decode cX1_init 12 = .ok (.aload_n 0, 1) := by decide +kernel
theorem dX1_init_13 : decode cX1_init 13 = .ok (.sipush 128, 3) := by decide +kernel
theorem dX1_init_16 : decode cX1_init 16 = .ok (.newarray .int, 2) := by decide +kernel
theorem dX1_init_18 : decode cX1_init 18 = .ok (.putfield 15, 3) := by decide +kernel
theorem dX1_init_21 : decode cX1_init 21 = .ok (.aload_n 0, 1) := by decide +kernel
theorem dX1_init_22 : decode cX1_init 22 = .ok (.sipush 128, 3) := by decide +kernel
theorem dX1_init_25 : decode cX1_init 25 = .ok (.newarray .int, 2) := by decide +kernel
theorem dX1_init_27 : decode cX1_init 27 = .ok (.putfield 18, 3) := by decide +kernel
theorem dX1_init_30 : decode cX1_init 30 = .ok (.return_, 1) := by decide +kernel
theorem dX1_reckon_0 : decode cX1_reckon 0 = .ok (.iconst 0, 1) := by decide +kernel
theorem dX1_reckon_1 : decode cX1_reckon 1 = .ok (.istore_n 3, 1) := by decide +kernel
theorem dX1_reckon_2 : decode cX1_reckon 2 = .ok (.iload_n 3, 1) := by decide +kernel
theorem dX1_reckon_3 : decode cX1_reckon 3 = .ok (.bipush 7, 2) := by decide +kernel
theorem dX1_reckon_5 : decode cX1_reckon 5 = .ok (.if_icmp .ge 18, 3) := by decide +kernel
theorem dX1_reckon_8 : decode cX1_reckon 8 = .ok (.aload_n 0, 1) := by decide +kernel
theorem dX1_reckon_9 : decode cX1_reckon 9 = .ok (.getfield 9, 3) := by decide +kernel
theorem dX1_reckon_12 : decode cX1_reckon 12 = .ok (.iload_n 3, 1) := by decide +kernel
theorem dX1_reckon_13 : decode cX1_reckon 13 = .ok (.iconst 0, 1) := by decide +kernel
theorem dX1_reckon_14 : decode cX1_reckon 14 = .ok (.invokestatic 21, 3) := by decide +kernel
theorem dX1_reckon_17 : decode cX1_reckon 17 = .ok (.iinc 3 1, 3) := by decide +kernel
theorem dX1_reckon_20 : decode cX1_reckon 20 = .ok (.goto (-18), 3) := by decide +kernel
theorem dX1_reckon_23 : decode cX1_reckon 23 = .ok (.iconst 0, 1) := by decide +kernel
theorem dX1_reckon_24 : decode cX1_reckon 24 = .ok (.istore_n 3, 1) := by decide +kernel
theorem dX1_reckon_25 : decode cX1_reckon 25 = .ok (.iload_n 3, 1) := by decide +kernel
theorem dX1_reckon_26 : decode cX1_reckon 26 = .ok (.aload_n 2, 1) := by decide +kernel
theorem dX1_reckon_27 : decode cX1_reckon 27 = .ok (.getfield 27, 3) := by decide +kernel
theorem dX1_reckon_30 : decode cX1_reckon 30 = .ok (.iconst 1, 1) := by decide +kernel
theorem dX1_reckon_31 : decode cX1_reckon 31 = .ok (.isub, 1) := by decide +kernel
theorem dX1_reckon_32 : decode cX1_reckon 32 = .ok (.if_icmp .ge 102, 3) := by decide +kernel
theorem dX1_reckon_35 : decode cX1_reckon 35 = .ok (.aload_n 2, 1) := by decide +kernel
theorem dX1_reckon_36 : decode cX1_reckon 36 = .ok (.getfield 33, 3) := by decide +kernel
theorem dX1_reckon_39 : decode cX1_reckon 39 = .ok (.iload_n 3, 1) := by decide +kernel
theorem dX1_reckon_40 : decode cX1_reckon 40 = .ok (.invokestatic 36, 3) := by decide +kernel
theorem dX1_reckon_43 : decode cX1_reckon 43 = .ok (.istore 4, 2) := by decide +kernel
theorem dX1_reckon_45 : decode cX1_reckon 45 = .ok (.aload_n 2, 1) := by decide +kernel
theorem dX1_reckon_46 : decode cX1_reckon 46 = .ok (.getfield 40, 3) := by decide +kernel
theorem dX1_reckon_49 : decode cX1_reckon 49 = .ok (.iload 4, 2) := by decide +kernel
theorem dX1_reckon_51 : decode cX1_reckon 51 = .ok (.invokestatic 36, 3) := by decide +kernel
theorem dX1_reckon_54 : decode cX1_reckon 54 = .ok (.iconst 1, 1) := by decide +kernel
theorem dX1_reckon_55 : decode cX1_reckon 55 = .ok (.if_icmp .ne 73, 3) := by decide +kernel
theorem dX1_reckon_58 : decode cX1_reckon 58 = .ok (.aload_n 2, 1) := by decide +kernel
theorem dX1_reckon_59 : decode cX1_reckon 59 = .ok (.getfield 33, 3) := by decide +kernel
theorem dX1_reckon_62 : decode cX1_reckon 62 = .ok (.iload_n 3, 1) := by decide +kernel
theorem dX1_reckon_63 : decode cX1_reckon 63 = .ok (.iconst 1, 1) := by decide +kernel
theorem dX1_reckon_64 : decode cX1_reckon 64 = .ok (.iadd, 1) := by decide +kernel
theorem dX1_reckon_65 : decode cX1_reckon 65 = .ok (.invokestatic 36, 3) := by decide +kernel
theorem dX1_reckon_68 : decode cX1_reckon 68 = .ok (.istore 5, 2) := by decide +kernel
theorem dX1_reckon_70 : decode cX1_reckon 70 = .ok (.aload_n 1, 1) := by decide +kernel
theorem dX1_reckon_71 : decode cX1_reckon 71 = .ok (.aload_n 2, 1) := by decide +kernel
theorem dX1_reckon_72 : decode cX1_reckon 72 = .ok (.getfield 43, 3) := by decide +kernel
theorem dX1_reckon_75 : decode cX1_reckon 75 = .ok (.iload_n 3, 1) := by decide +kernel
theorem dX1_reckon_76 : decode cX1_reckon 76 = .ok (.invokestatic 36, 3) := by decide +kernel
theorem dX1_reckon_79 : decode cX1_reckon 79 = .ok (.iload 5, 2) := by decide +kernel
theorem dX1_reckon_81 : decode cX1_reckon 81 = .ok (.invokestatic 46, 3) := by decide +kernel
theorem dX1_reckon_84 : decode cX1_reckon 84 = .ok (.istore 6, 2) := by decide +kernel
theorem dX1_reckon_86 : decode cX1_reckon 86 = .ok (.aload_n 0, 1) := by decide +kernel
theorem dX1_reckon_87 : decode cX1_reckon 87 = .ok (.getfield 9, 3) := by decide +kernel
theorem dX1_reckon_90 : decode cX1_reckon 90 = .ok (.iload 4, 2) := by decide +kernel
theorem dX1_reckon_92 : decode cX1_reckon 92 = .ok (.aload_n 0, 1) := by decide +kernel
theorem dX1_reckon_93 : decode cX1_reckon 93 = .ok (.getfield 9, 3) := by decide +kernel
theorem dX1_reckon_96 : decode cX1_reckon 96 = .ok (.iload 4, 2) := by decide +kernel
theorem dX1_reckon_98 : decode cX1_reckon 98 = .ok (.invokestatic 36, 3) := by decide +kernel
theorem dX1_reckon_101 : decode cX1_reckon 101 = .ok (.iload 6, 2) := by decide +kernel
theorem dX1_reckon_103 : decode cX1_reckon 103 = .ok (.isub, 1) := by decide +kernel
theorem dX1_reckon_104 : decode cX1_reckon 104 = .ok (.invokestatic 21, 3) := by decide +kernel
theorem dX1_reckon_107 : decode cX1_reckon 107 = .ok (.aload_n 0, 1) := by decide +kernel
theorem dX1_reckon_108 : decode cX1_reckon 108 = .ok (.getfield 9, 3) := by decide +kernel
theorem dX1_reckon_111 : decode cX1_reckon 111 = .ok (.iload 5, 2) := by decide +kernel
theorem dX1_reckon_113 : decode cX1_reckon 113 = .ok (.aload_n 0, 1) := by decide +kernel
theorem dX1_reckon_114 : decode cX1_reckon 114 = .ok (.getfield 9, 3) := by decide +kernel
theorem dX1_reckon_117 : decode cX1_reckon 117 = .ok (.iload 5, 2) := by decide +kernel
theorem dX1_reckon_119 : decode cX1_reckon 119 = .ok (.invokestatic 36, 3) := by decide +kernel
theorem dX1_reckon_122 : decode cX1_reckon 122 = .ok (.iload 6, 2) := by decide +kernel
theorem dX1_reckon_124 : decode cX1_reckon 124 = .ok (.iadd, 1) := by decide +kernel
theorem dX1_reckon_125 : decode cX1_reckon 125 = .ok (.invokestatic 21, 3) := by decide +kernel
theorem dX1_reckon_128 : decode cX1_reckon 128 = .ok (.iinc 3 1, 3) := by decide +kernel
theorem dX1_reckon_131 : decode cX1_reckon 131 = .ok (.goto (-106), 3) := by decide +kernel
theorem dX1_reckon_134 : decode cX1_reckon 134 = .ok (.return_, 1) := by decide +kernel
theorem dX1_stepsFarther_0 : decode cX1_stepsFarther 0 = .ok (.aload_n 0, 1) := by decide +kernel
theorem dX1_stepsFarther_1 : decode cX1_stepsFarther 1 = .ok (.getfield 50, 3) := by decide +kernel
theorem dX1_stepsFarther_4 : decode cX1_stepsFarther 4 = .ok (.iload_n 2, 1) := by decide +kernel
theorem dX1_stepsFarther_5 : decode cX1_stepsFarther 5 = .ok (.invokestatic 36, 3) := by decide +kernel
theorem dX1_stepsFarther_8 : decode cX1_stepsFarther 8 = .ok (.istore_n 3, 1) := by decide +kernel
theorem dX1_stepsFarther_9 : decode cX1_stepsFarther 9 = .ok (.iconst 0, 1) := by decide +kernel
theorem dX1_stepsFarther_10 : decode cX1_stepsFarther 10 = .ok (.iload_n 1, 1) := by decide +kernel
theorem dX1_stepsFarther_11 : decode cX1_stepsFarther 11 = .ok (.iload_n 3, 1) := by decide +kernel
theorem dX1_stepsFarther_12 : decode cX1_stepsFarther 12 = .ok (.isub, 1) := by decide +kernel
theorem dX1_stepsFarther_13 : decode cX1_stepsFarther 13 = .ok (.invokestatic 55, 3) := by decide +kernel
theorem dX1_stepsFarther_16 : decode cX1_stepsFarther 16 = .ok (.aload_n 0, 1) := by decide +kernel
theorem dX1_stepsFarther_17 : decode cX1_stepsFarther 17 = .ok (.invokevirtual 61, 3) := by decide +kernel
theorem dX1_stepsFarther_20 : decode cX1_stepsFarther 20 = .ok (.iload_n 3, 1) := by decide +kernel
theorem dX1_stepsFarther_21 : decode cX1_stepsFarther 21 = .ok (.isub, 1) := by decide +kernel
theorem dX1_stepsFarther_22 : decode cX1_stepsFarther 22 = .ok (.invokestatic 55, 3) := by decide +kernel
theorem dX1_stepsFarther_25 : decode cX1_stepsFarther 25 = .ok (.isub, 1) := by decide +kernel
theorem dX1_stepsFarther_26 : decode cX1_stepsFarther 26 = .ok (.invokestatic 65, 3) := by decide +kernel
theorem dX1_stepsFarther_29 : decode cX1_stepsFarther 29 = .ok (.ireturn, 1) := by decide +kernel
theorem dX1_fewestPayments_0 : decode cX1_fewestPayments 0 = .ok (.iload_n 1, 1) := by decide +kernel
theorem dX1_fewestPayments_1 : decode cX1_fewestPayments 1 = .ok (.bipush 7, 2) := by decide +kernel
theorem dX1_fewestPayments_3 : decode cX1_fewestPayments 3 = .ok (.if_icmp .le 5, 3) := by decide +kernel
theorem dX1_fewestPayments_6 : decode cX1_fewestPayments 6 = .ok (.iconst 0, 1) := by decide +kernel
theorem dX1_fewestPayments_7 : decode cX1_fewestPayments 7 = .ok (.ireturn, 1) := by decide +kernel
theorem dX1_fewestPayments_8 : decode cX1_fewestPayments 8 = .ok (.aload_n 0, 1) := by decide +kernel
theorem dX1_fewestPayments_9 : decode cX1_fewestPayments 9 = .ok (.getfield 15, 3) := by decide +kernel
theorem dX1_fewestPayments_12 : decode cX1_fewestPayments 12 = .ok (.iconst 0, 1) := by decide +kernel
theorem dX1_fewestPayments_13 : decode cX1_fewestPayments 13 = .ok (.iconst 0, 1) := by decide +kernel
theorem dX1_fewestPayments_14 : decode cX1_fewestPayments 14 = .ok (.invokestatic 21, 3) := by decide +kernel
theorem dX1_fewestPayments_17 : decode cX1_fewestPayments 17 = .ok (.aload_n 0, 1) := by decide +kernel
theorem dX1_fewestPayments_18 : decode cX1_fewestPayments 18 = .ok (.getfield 18, 3) := by decide +kernel
theorem dX1_fewestPayments_21 : decode cX1_fewestPayments 21 = .ok (.iconst 0, 1) := by decide +kernel
theorem dX1_fewestPayments_22 : decode cX1_fewestPayments 22 = .ok (.iconst 0, 1) := by decide +kernel
theorem dX1_fewestPayments_23 : decode cX1_fewestPayments 23 = .ok (.invokestatic 21, 3) := by decide +kernel
theorem dX1_fewestPayments_26 : decode cX1_fewestPayments 26 = .ok (.iconst 1, 1) := by decide +kernel
theorem dX1_fewestPayments_27 : decode cX1_fewestPayments 27 = .ok (.iload_n 1, 1) := by decide +kernel
theorem dX1_fewestPayments_28 : decode cX1_fewestPayments 28 = .ok (.ishl, 1) := by decide +kernel
theorem dX1_fewestPayments_29 : decode cX1_fewestPayments 29 = .ok (.iconst 1, 1) := by decide +kernel
theorem dX1_fewestPayments_30 : decode cX1_fewestPayments 30 = .ok (.isub, 1) := by decide +kernel
theorem dX1_fewestPayments_31 : decode cX1_fewestPayments 31 = .ok (.istore_n 2, 1) := by decide +kernel
theorem dX1_fewestPayments_32 : decode cX1_fewestPayments 32 = .ok (.iconst 1, 1) := by decide +kernel
theorem dX1_fewestPayments_33 : decode cX1_fewestPayments 33 = .ok (.istore_n 3, 1) := by decide +kernel
theorem dX1_fewestPayments_34 : decode cX1_fewestPayments 34 = .ok (.iload_n 3, 1) := by decide +kernel
theorem dX1_fewestPayments_35 : decode cX1_fewestPayments 35 = .ok (.iload_n 2, 1) := by decide +kernel
theorem dX1_fewestPayments_36 : decode cX1_fewestPayments 36 = .ok (.if_icmp .gt 15, 3) := by decide +kernel
theorem dX1_fewestPayments_39 : decode cX1_fewestPayments 39 = .ok (.aload_n 0, 1) := by decide +kernel
theorem dX1_fewestPayments_40 : decode cX1_fewestPayments 40 = .ok (.iload_n 3, 1) := by decide +kernel
theorem dX1_fewestPayments_41 : decode cX1_fewestPayments 41 = .ok (.iload_n 1, 1) := by decide +kernel
theorem dX1_fewestPayments_42 : decode cX1_fewestPayments 42 = .ok (.invokevirtual 69, 3) := by decide +kernel
theorem dX1_fewestPayments_45 : decode cX1_fewestPayments 45 = .ok (.iinc 3 1, 3) := by decide +kernel
theorem dX1_fewestPayments_48 : decode cX1_fewestPayments 48 = .ok (.goto (-14), 3) := by decide +kernel
theorem dX1_fewestPayments_51 : decode cX1_fewestPayments 51 = .ok (.iload_n 1, 1) := by decide +kernel
theorem dX1_fewestPayments_52 : decode cX1_fewestPayments 52 = .ok (.aload_n 0, 1) := by decide +kernel
theorem dX1_fewestPayments_53 : decode cX1_fewestPayments 53 = .ok (.getfield 18, 3) := by decide +kernel
theorem dX1_fewestPayments_56 : decode cX1_fewestPayments 56 = .ok (.iload_n 2, 1) := by decide +kernel
theorem dX1_fewestPayments_57 : decode cX1_fewestPayments 57 = .ok (.invokestatic 36, 3) := by decide +kernel
theorem dX1_fewestPayments_60 : decode cX1_fewestPayments 60 = .ok (.isub, 1) := by decide +kernel
theorem dX1_fewestPayments_61 : decode cX1_fewestPayments 61 = .ok (.ireturn, 1) := by decide +kernel
theorem dX1_joinUp_0 : decode cX1_joinUp 0 = .ok (.iconst 0, 1) := by decide +kernel
theorem dX1_joinUp_1 : decode cX1_joinUp 1 = .ok (.istore_n 3, 1) := by decide +kernel
theorem dX1_joinUp_2 : decode cX1_joinUp 2 = .ok (.iconst 0, 1) := by decide +kernel
theorem dX1_joinUp_3 : decode cX1_joinUp 3 = .ok (.istore 4, 2) := by decide +kernel
theorem dX1_joinUp_5 : decode cX1_joinUp 5 = .ok (.iload 4, 2) := by decide +kernel
theorem dX1_joinUp_7 : decode cX1_joinUp 7 = .ok (.iload_n 2, 1) := by decide +kernel
theorem dX1_joinUp_8 : decode cX1_joinUp 8 = .ok (.if_icmp .ge 66, 3) := by decide +kernel
theorem dX1_joinUp_11 : decode cX1_joinUp 11 = .ok (.iload_n 1, 1) := by decide +kernel
theorem dX1_joinUp_12 : decode cX1_joinUp 12 = .ok (.iconst 1, 1) := by decide +kernel
theorem dX1_joinUp_13 : decode cX1_joinUp 13 = .ok (.iload 4, 2) := by decide +kernel
theorem dX1_joinUp_15 : decode cX1_joinUp 15 = .ok (.ishl, 1) := by decide +kernel
theorem dX1_joinUp_16 : decode cX1_joinUp 16 = .ok (.iconst (-1), 1) := by decide +kernel
theorem dX1_joinUp_17 : decode cX1_joinUp 17 = .ok (.ixor, 1) := by decide +kernel
theorem dX1_joinUp_18 : decode cX1_joinUp 18 = .ok (.iand, 1) := by decide +kernel
theorem dX1_joinUp_19 : decode cX1_joinUp 19 = .ok (.istore 5, 2) := by decide +kernel
theorem dX1_joinUp_21 : decode cX1_joinUp 21 = .ok (.iload 5, 2) := by decide +kernel
theorem dX1_joinUp_23 : decode cX1_joinUp 23 = .ok (.iload_n 1, 1) := by decide +kernel
theorem dX1_joinUp_24 : decode cX1_joinUp 24 = .ok (.if_icmp .eq 44, 3) := by decide +kernel
theorem dX1_joinUp_27 : decode cX1_joinUp 27 = .ok (.iload_n 3, 1) := by decide +kernel
theorem dX1_joinUp_28 : decode cX1_joinUp 28 = .ok (.aload_n 0, 1) := by decide +kernel
theorem dX1_joinUp_29 : decode cX1_joinUp 29 = .ok (.getfield 18, 3) := by decide +kernel
theorem dX1_joinUp_32 : decode cX1_joinUp 32 = .ok (.iload 5, 2) := by decide +kernel
theorem dX1_joinUp_34 : decode cX1_joinUp 34 = .ok (.invokestatic 36, 3) := by decide +kernel
theorem dX1_joinUp_37 : decode cX1_joinUp 37 = .ok (.invokestatic 65, 3) := by decide +kernel
theorem dX1_joinUp_40 : decode cX1_joinUp 40 = .ok (.istore_n 3, 1) := by decide +kernel
theorem dX1_joinUp_41 : decode cX1_joinUp 41 = .ok (.aload_n 0, 1) := by decide +kernel
theorem dX1_joinUp_42 : decode cX1_joinUp 42 = .ok (.getfield 15, 3) := by decide +kernel
theorem dX1_joinUp_45 : decode cX1_joinUp 45 = .ok (.iload_n 1, 1) := by decide +kernel
theorem dX1_joinUp_46 : decode cX1_joinUp 46 = .ok (.aload_n 0, 1) := by decide +kernel
theorem dX1_joinUp_47 : decode cX1_joinUp 47 = .ok (.getfield 15, 3) := by decide +kernel
theorem dX1_joinUp_50 : decode cX1_joinUp 50 = .ok (.iload 5, 2) := by decide +kernel
theorem dX1_joinUp_52 : decode cX1_joinUp 52 = .ok (.invokestatic 36, 3) := by decide +kernel
theorem dX1_joinUp_55 : decode cX1_joinUp 55 = .ok (.aload_n 0, 1) := by decide +kernel
theorem dX1_joinUp_56 : decode cX1_joinUp 56 = .ok (.getfield 9, 3) := by decide +kernel
theorem dX1_joinUp_59 : decode cX1_joinUp 59 = .ok (.iload 4, 2) := by decide +kernel
theorem dX1_joinUp_61 : decode cX1_joinUp 61 = .ok (.invokestatic 36, 3) := by decide +kernel
theorem dX1_joinUp_64 : decode cX1_joinUp 64 = .ok (.iadd, 1) := by decide +kernel
theorem dX1_joinUp_65 : decode cX1_joinUp 65 = .ok (.invokestatic 21, 3) := by decide +kernel
theorem dX1_joinUp_68 : decode cX1_joinUp 68 = .ok (.iinc 4 1, 3) := by decide +kernel
theorem dX1_joinUp_71 : decode cX1_joinUp 71 = .ok (.goto (-66), 3) := by decide +kernel
theorem dX1_joinUp_74 : decode cX1_joinUp 74 = .ok (.aload_n 0, 1) := by decide +kernel
theorem dX1_joinUp_75 : decode cX1_joinUp 75 = .ok (.getfield 18, 3) := by decide +kernel
theorem dX1_joinUp_78 : decode cX1_joinUp 78 = .ok (.iload_n 1, 1) := by decide +kernel
theorem dX1_joinUp_79 : decode cX1_joinUp 79 = .ok (.aload_n 0, 1) := by decide +kernel
theorem dX1_joinUp_80 : decode cX1_joinUp 80 = .ok (.getfield 15, 3) := by decide +kernel
theorem dX1_joinUp_83 : decode cX1_joinUp 83 = .ok (.iload_n 1, 1) := by decide +kernel
theorem dX1_joinUp_84 : decode cX1_joinUp 84 = .ok (.invokestatic 36, 3) := by decide +kernel
theorem dX1_joinUp_87 : decode cX1_joinUp 87 = .ok (.ifCond .ne 9, 3) := by decide +kernel
theorem dX1_joinUp_90 : decode cX1_joinUp 90 = .ok (.iload_n 3, 1) := by decide +kernel
theorem dX1_joinUp_91 : decode cX1_joinUp 91 = .ok (.iconst 1, 1) := by decide +kernel
theorem dX1_joinUp_92 : decode cX1_joinUp 92 = .ok (.iadd, 1) := by decide +kernel
theorem dX1_joinUp_93 : decode cX1_joinUp 93 = .ok (.goto 4, 3) := by decide +kernel
theorem dX1_joinUp_96 : decode cX1_joinUp 96 = .ok (.iload_n 3, 1) := by decide +kernel
theorem dX1_joinUp_97 : decode cX1_joinUp 97 = .ok (.invokestatic 21, 3) := by decide +kernel
theorem dX1_joinUp_100 : decode cX1_joinUp 100 = .ok (.return_, 1) := by decide +kernel
theorem dX2_init_0 : decode cX2_init 0 = .ok (.aload_n 0, 1) := by decide +kernel
theorem dX2_init_1 : decode cX2_init 1 = .ok (.invokespecial 3, 3) := by decide +kernel
theorem dX2_init_4 : decode cX2_init 4 = .ok (.aload_n 0, 1) := by decide +kernel
theorem dX2_init_5 : decode cX2_init 5 = .ok (.bipush 96, 2) := by decide +kernel
theorem dX2_init_7 : decode cX2_init 7 = .ok (.newarray .int, 2) := by decide +kernel
theorem dX2_init_9 : decode cX2_init 9 = .ok (.putfield 9, 3) := by decide +kernel
theorem dX2_init_12 : decode cX2_init 12 = .ok (.return_, 1) := by decide +kernel
theorem dX2_add_0 : decode cX2_add 0 = .ok (.aload_n 0, 1) := by decide +kernel
theorem dX2_add_1 : decode cX2_add 1 = .ok (.getfield 9, 3) := by decide +kernel
theorem dX2_add_4 : decode cX2_add 4 = .ok (.aload_n 0, 1) := by decide +kernel
theorem dX2_add_5 : decode cX2_add 5 = .ok (.getfield 15, 3) := by decide +kernel
theorem dX2_add_8 : decode cX2_add 8 = .ok (.iload_n 1, 1) := by decide +kernel
theorem dX2_add_9 : decode cX2_add 9 = .ok (.invokestatic 19, 3) := by decide +kernel
theorem dX2_add_12 : decode cX2_add 12 = .ok (.aload_n 0, 1) := by decide +kernel
theorem dX2_add_13 : decode cX2_add 13 = .ok (.dup, 1) := by decide +kernel
theorem dX2_add_14 : decode cX2_add 14 = .ok (.getfield 15, 3) := by decide +kernel
theorem dX2_add_17 : decode cX2_add 17 = .ok (.iconst 1, 1) := by decide +kernel
theorem dX2_add_18 : decode cX2_add 18 = .ok (.iadd, 1) := by decide +kernel
theorem dX2_add_19 : decode cX2_add 19 = .ok (.putfield 15, 3) := by decide +kernel
theorem dX2_add_22 : decode cX2_add 22 = .ok (.return_, 1) := by decide +kernel
theorem dX2_tellTo_0 : decode cX2_tellTo 0 = .ok (.aload_n 0, 1) := by decide +kernel
theorem dX2_tellTo_1 : decode cX2_tellTo 1 = .ok (.invokevirtual 25, 3) := by decide +kernel
theorem dX2_tellTo_4 : decode cX2_tellTo 4 = .ok (.istore_n 2, 1) := by decide +kernel
theorem dX2_tellTo_5 : decode cX2_tellTo 5 = .ok (.iload_n 2, 1) := by decide +kernel
theorem dX2_tellTo_6 : decode cX2_tellTo 6 = .ok (.iconst (-1), 1) := by decide +kernel
theorem dX2_tellTo_7 : decode cX2_tellTo 7 = .ok (.if_icmp .eq 9, 3) := by decide +kernel
theorem dX2_tellTo_10 : decode cX2_tellTo 10 = .ok (.sipush (-1000), 3) := by decide +kernel
theorem dX2_tellTo_13 : decode cX2_tellTo 13 = .ok (.iload_n 2, 1) := by decide +kernel
theorem dX2_tellTo_14 : decode cX2_tellTo 14 = .ok (.isub, 1) := by decide +kernel
theorem dX2_tellTo_15 : decode cX2_tellTo 15 = .ok (.ireturn, 1) := by decide +kernel
theorem dX2_tellTo_16 : decode cX2_tellTo 16 = .ok (.iconst 0, 1) := by decide +kernel
theorem dX2_tellTo_17 : decode cX2_tellTo 17 = .ok (.istore_n 3, 1) := by decide +kernel
theorem dX2_tellTo_18 : decode cX2_tellTo 18 = .ok (.iconst 0, 1) := by decide +kernel
theorem dX2_tellTo_19 : decode cX2_tellTo 19 = .ok (.istore 4, 2) := by decide +kernel
theorem dX2_tellTo_21 : decode cX2_tellTo 21 = .ok (.iload 4, 2) := by decide +kernel
theorem dX2_tellTo_23 : decode cX2_tellTo 23 = .ok (.bipush 96, 2) := by decide +kernel
theorem dX2_tellTo_25 : decode cX2_tellTo 25 = .ok (.if_icmp .ge 46, 3) := by decide +kernel
theorem dX2_tellTo_28 : decode cX2_tellTo 28 = .ok (.iload_n 3, 1) := by decide +kernel
theorem dX2_tellTo_29 : decode cX2_tellTo 29 = .ok (.aload_n 0, 1) := by decide +kernel
theorem dX2_tellTo_30 : decode cX2_tellTo 30 = .ok (.getfield 15, 3) := by decide +kernel
theorem dX2_tellTo_33 : decode cX2_tellTo 33 = .ok (.if_icmp .ge 38, 3) := by decide +kernel
theorem dX2_tellTo_36 : decode cX2_tellTo 36 = .ok (.aload_n 0, 1) := by decide +kernel
theorem dX2_tellTo_37 : decode cX2_tellTo 37 = .ok (.aload_n 1, 1) := by decide +kernel
theorem dX2_tellTo_38 : decode cX2_tellTo 38 = .ok (.iload_n 3, 1) := by decide +kernel
theorem dX2_tellTo_39 : decode cX2_tellTo 39 = .ok (.invokevirtual 29, 3) := by decide +kernel
theorem dX2_tellTo_42 : decode cX2_tellTo 42 = .ok (.ifCond .ne 9, 3) := by decide +kernel
theorem dX2_tellTo_45 : decode cX2_tellTo 45 = .ok (.sipush (-2000), 3) := by decide +kernel
theorem dX2_tellTo_48 : decode cX2_tellTo 48 = .ok (.iload_n 3, 1) := by decide +kernel
theorem dX2_tellTo_49 : decode cX2_tellTo 49 = .ok (.isub, 1) := by decide +kernel
theorem dX2_tellTo_50 : decode cX2_tellTo 50 = .ok (.ireturn, 1) := by decide +kernel
theorem dX2_tellTo_51 : decode cX2_tellTo 51 = .ok (.iload_n 3, 1) := by decide +kernel
theorem dX2_tellTo_52 : decode cX2_tellTo 52 = .ok (.aload_n 0, 1) := by decide +kernel
theorem dX2_tellTo_53 : decode cX2_tellTo 53 = .ok (.getfield 9, 3) := by decide +kernel
theorem dX2_tellTo_56 : decode cX2_tellTo 56 = .ok (.iload_n 3, 1) := by decide +kernel
theorem dX2_tellTo_57 : decode cX2_tellTo 57 = .ok (.invokestatic 33, 3) := by decide +kernel
theorem dX2_tellTo_60 : decode cX2_tellTo 60 = .ok (.invokestatic 37, 3) := by decide +kernel
theorem dX2_tellTo_63 : decode cX2_tellTo 63 = .ok (.iadd, 1) := by decide +kernel
theorem dX2_tellTo_64 : decode cX2_tellTo 64 = .ok (.istore_n 3, 1) := by decide +kernel
theorem dX2_tellTo_65 : decode cX2_tellTo 65 = .ok (.iinc 4 1, 3) := by decide +kernel
theorem dX2_tellTo_68 : decode cX2_tellTo 68 = .ok (.goto (-47), 3) := by decide +kernel
theorem dX2_tellTo_71 : decode cX2_tellTo 71 = .ok (.iload 4, 2) := by decide +kernel
theorem dX2_tellTo_73 : decode cX2_tellTo 73 = .ok (.ireturn, 1) := by decide +kernel
theorem dX2_firstOutOfPlace_0 : decode cX2_firstOutOfPlace 0 = .ok (.iconst 0, 1) := by decide +kernel
theorem dX2_firstOutOfPlace_1 : decode cX2_firstOutOfPlace 1 = .ok (.istore_n 1, 1) := by decide +kernel
theorem dX2_firstOutOfPlace_2 : decode cX2_firstOutOfPlace 2 = .ok (.iconst 0, 1) := by decide +kernel
theorem dX2_firstOutOfPlace_3 : decode cX2_firstOutOfPlace 3 = .ok (.istore_n 2, 1) := by decide +kernel
theorem dX2_firstOutOfPlace_4 : decode cX2_firstOutOfPlace 4 = .ok (.iconst 0, 1) := by decide +kernel
theorem dX2_firstOutOfPlace_5 : decode cX2_firstOutOfPlace 5 = .ok (.istore_n 3, 1) := by decide +kernel
theorem dX2_firstOutOfPlace_6 : decode cX2_firstOutOfPlace 6 = .ok (.iload_n 3, 1) := by decide +kernel
theorem dX2_firstOutOfPlace_7 : decode cX2_firstOutOfPlace 7 = .ok (.aload_n 0, 1) := by decide +kernel
theorem dX2_firstOutOfPlace_8 : decode cX2_firstOutOfPlace 8 = .ok (.getfield 15, 3) := by decide +kernel
theorem dX2_firstOutOfPlace_11 : decode cX2_firstOutOfPlace 11 = .ok (.if_icmp .ge 115, 3) := by decide +kernel
theorem dX2_firstOutOfPlace_14 : decode cX2_firstOutOfPlace 14 = .ok (.aload_n 0, 1) := by decide +kernel
theorem dX2_firstOutOfPlace_15 : decode cX2_firstOutOfPlace 15 = .ok (.getfield 9, 3) := by decide +kernel
theorem dX2_firstOutOfPlace_18 : decode cX2_firstOutOfPlace 18 = .ok (.iload_n 3, 1) := by decide +kernel
theorem dX2_firstOutOfPlace_19 : decode cX2_firstOutOfPlace 19 = .ok (.invokestatic 33, 3) := by decide +kernel
theorem dX2_firstOutOfPlace_22 : decode cX2_firstOutOfPlace 22 = .ok (.istore 4, 2) := by decide +kernel
theorem dX2_firstOutOfPlace_24 : decode cX2_firstOutOfPlace 24 = .ok (.iload_n 1, 1) := by decide +kernel
theorem dX2_firstOutOfPlace_25 : decode cX2_firstOutOfPlace 25 = .ok (.ifCond .ne 38, 3) := by decide +kernel
theorem dX2_firstOutOfPlace_28 : decode cX2_firstOutOfPlace 28 = .ok (.iload 4, 2) := by decide +kernel
theorem dX2_firstOutOfPlace_30 : decode cX2_firstOutOfPlace 30 = .ok (.invokestatic 41, 3) := by decide +kernel
theorem dX2_firstOutOfPlace_33 : decode cX2_firstOutOfPlace 33 = .ok (.iconst (-1), 1) := by decide +kernel
theorem dX2_firstOutOfPlace_34 : decode cX2_firstOutOfPlace 34 = .ok (.if_icmp .ne 5, 3) := by decide +kernel
theorem dX2_firstOutOfPlace_37 : decode cX2_firstOutOfPlace 37 = .ok (.iload_n 3, 1) := by decide +kernel
theorem dX2_firstOutOfPlace_38 : decode cX2_firstOutOfPlace 38 = .ok (.ireturn, 1) := by decide +kernel
theorem dX2_firstOutOfPlace_39 : decode cX2_firstOutOfPlace 39 = .ok (.iload 4, 2) := by decide +kernel
theorem dX2_firstOutOfPlace_41 : decode cX2_firstOutOfPlace 41 = .ok (.invokestatic 41, 3) := by decide +kernel
theorem dX2_firstOutOfPlace_44 : decode cX2_firstOutOfPlace 44 = .ok (.iconst 1, 1) := by decide +kernel
theorem dX2_firstOutOfPlace_45 : decode cX2_firstOutOfPlace 45 = .ok (.iadd, 1) := by decide +kernel
theorem dX2_firstOutOfPlace_46 : decode cX2_firstOutOfPlace 46 = .ok (.istore_n 1, 1) := by decide +kernel
theorem dX2_firstOutOfPlace_47 : decode cX2_firstOutOfPlace 47 = .ok (.iload 4, 2) := by decide +kernel
theorem dX2_firstOutOfPlace_49 : decode cX2_firstOutOfPlace 49 = .ok (.bipush 103, 2) := by decide +kernel
theorem dX2_firstOutOfPlace_51 : decode cX2_firstOutOfPlace 51 = .ok (.if_icmp .ne 7, 3) := by decide +kernel
theorem dX2_firstOutOfPlace_54 : decode cX2_firstOutOfPlace 54 = .ok (.iconst 1, 1) := by decide +kernel
theorem dX2_firstOutOfPlace_55 : decode cX2_firstOutOfPlace 55 = .ok (.goto 4, 3) := by decide +kernel
theorem dX2_firstOutOfPlace_58 : decode cX2_firstOutOfPlace 58 = .ok (.iconst 0, 1) := by decide +kernel
theorem dX2_firstOutOfPlace_59 : decode cX2_firstOutOfPlace 59 = .ok (.istore_n 2, 1) := by decide +kernel
theorem dX2_firstOutOfPlace_60 : decode cX2_firstOutOfPlace 60 = .ok (.goto 60, 3) := by decide +kernel
theorem dX2_firstOutOfPlace_63 : decode cX2_firstOutOfPlace 63 = .ok (.iload_n 2, 1) := by decide +kernel
theorem dX2_firstOutOfPlace_64 : decode cX2_firstOutOfPlace 64 = .ok (.ifCond .eq 19, 3) := by decide +kernel
theorem dX2_firstOutOfPlace_67 : decode cX2_firstOutOfPlace 67 = .ok (.iload 4, 2) := by decide +kernel
theorem dX2_firstOutOfPlace_69 : decode cX2_firstOutOfPlace 69 = .ok (.invokestatic 44, 3) := by decide +kernel
theorem dX2_firstOutOfPlace_72 : decode cX2_firstOutOfPlace 72 = .ok (.iconst (-1), 1) := by decide +kernel
theorem dX2_firstOutOfPlace_73 : decode cX2_firstOutOfPlace 73 = .ok (.if_icmp .ne 5, 3) := by decide +kernel
theorem dX2_firstOutOfPlace_76 : decode cX2_firstOutOfPlace 76 = .ok (.iload_n 3, 1) := by decide +kernel
theorem dX2_firstOutOfPlace_77 : decode cX2_firstOutOfPlace 77 = .ok (.ireturn, 1) := by decide +kernel
theorem dX2_firstOutOfPlace_78 : decode cX2_firstOutOfPlace 78 = .ok (.iconst 0, 1) := by decide +kernel
theorem dX2_firstOutOfPlace_79 : decode cX2_firstOutOfPlace 79 = .ok (.istore_n 2, 1) := by decide +kernel
theorem dX2_firstOutOfPlace_80 : decode cX2_firstOutOfPlace 80 = .ok (.goto 40, 3) := by decide +kernel
theorem dX2_firstOutOfPlace_83 : decode cX2_firstOutOfPlace 83 = .ok (.iload_n 1, 1) := by decide +kernel
theorem dX2_firstOutOfPlace_84 : decode cX2_firstOutOfPlace 84 = .ok (.iconst 1, 1) := by decide +kernel
theorem dX2_firstOutOfPlace_85 : decode cX2_firstOutOfPlace 85 = .ok (.if_icmp .le 11, 3) := by decide +kernel
theorem dX2_firstOutOfPlace_88 : decode cX2_firstOutOfPlace 88 = .ok (.iload 4, 2) := by decide +kernel
theorem dX2_firstOutOfPlace_90 : decode cX2_firstOutOfPlace 90 = .ok (.invokestatic 49, 3) := by decide +kernel
theorem dX2_firstOutOfPlace_93 : decode cX2_firstOutOfPlace 93 = .ok (.goto 15, 3) := by decide +kernel
theorem dX2_firstOutOfPlace_96 : decode cX2_firstOutOfPlace 96 = .ok (.iload 4, 2) := by decide +kernel
theorem dX2_firstOutOfPlace_98 : decode cX2_firstOutOfPlace 98 = .ok (.bipush 59, 2) := by decide +kernel
theorem dX2_firstOutOfPlace_100 : decode cX2_firstOutOfPlace 100 = .ok (.if_icmp .ne 7, 3) := by decide +kernel
theorem dX2_firstOutOfPlace_103 : decode cX2_firstOutOfPlace 103 = .ok (.iconst 1, 1) := by decide +kernel
theorem dX2_firstOutOfPlace_104 : decode cX2_firstOutOfPlace 104 = .ok (.goto 4, 3) := by decide +kernel
theorem dX2_firstOutOfPlace_107 : decode cX2_firstOutOfPlace 107 = .ok (.iconst 0, 1) := by decide +kernel
theorem dX2_firstOutOfPlace_108 : decode cX2_firstOutOfPlace 108 = .ok (.istore 5, 2) := by decide +kernel
theorem dX2_firstOutOfPlace_110 : decode cX2_firstOutOfPlace 110 = .ok (.iload 5, 2) := by decide +kernel
theorem dX2_firstOutOfPlace_112 : decode cX2_firstOutOfPlace 112 = .ok (.ifCond .ne 5, 3) := by decide +kernel
theorem dX2_firstOutOfPlace_115 : decode cX2_firstOutOfPlace 115 = .ok (.iload_n 3, 1) := by decide +kernel
theorem dX2_firstOutOfPlace_116 : decode cX2_firstOutOfPlace 116 = .ok (.ireturn, 1) := by decide +kernel
theorem dX2_firstOutOfPlace_117 : decode cX2_firstOutOfPlace 117 = .ok (.iinc 1 (-1), 3) := by decide +kernel
theorem dX2_firstOutOfPlace_120 : decode cX2_firstOutOfPlace 120 = .ok (.iinc 3 1, 3) := by decide +kernel
theorem dX2_firstOutOfPlace_123 : decode cX2_firstOutOfPlace 123 = .ok (.goto (-117), 3) := by decide +kernel
theorem dX2_firstOutOfPlace_126 : decode cX2_firstOutOfPlace 126 = .ok (.aload_n 0, 1) := by decide +kernel
theorem dX2_firstOutOfPlace_127 : decode cX2_firstOutOfPlace 127 = .ok (.getfield 15, 3) := by decide +kernel
theorem dX2_firstOutOfPlace_130 : decode cX2_firstOutOfPlace 130 = .ok (.ifCond .eq 7, 3) := by decide +kernel
theorem dX2_firstOutOfPlace_133 : decode cX2_firstOutOfPlace 133 = .ok (.iload_n 1, 1) := by decide +kernel
theorem dX2_firstOutOfPlace_134 : decode cX2_firstOutOfPlace 134 = .ok (.ifCond .le 10, 3) := by decide +kernel
theorem dX2_firstOutOfPlace_137 : decode cX2_firstOutOfPlace 137 = .ok (.aload_n 0, 1) := by decide +kernel
theorem dX2_firstOutOfPlace_138 : decode cX2_firstOutOfPlace 138 = .ok (.getfield 15, 3) := by decide +kernel
theorem dX2_firstOutOfPlace_141 : decode cX2_firstOutOfPlace 141 = .ok (.goto 4, 3) := by decide +kernel
theorem dX2_firstOutOfPlace_144 : decode cX2_firstOutOfPlace 144 = .ok (.iconst (-1), 1) := by decide +kernel
theorem dX2_firstOutOfPlace_145 : decode cX2_firstOutOfPlace 145 = .ok (.ireturn, 1) := by decide +kernel
theorem dX2_tellStatement_0 : decode cX2_tellStatement 0 = .ok (.aload_n 0, 1) := by decide +kernel
theorem dX2_tellStatement_1 : decode cX2_tellStatement 1 = .ok (.getfield 9, 3) := by decide +kernel
theorem dX2_tellStatement_4 : decode cX2_tellStatement 4 = .ok (.iload_n 2, 1) := by decide +kernel
theorem dX2_tellStatement_5 : decode cX2_tellStatement 5 = .ok (.invokestatic 33, 3) := by decide +kernel
theorem dX2_tellStatement_8 : decode cX2_tellStatement 8 = .ok (.lookupswitch 195 #[(100, 139), (103, 60), (104, 174), (111, 125), (112, 111), (120, 153)], 60) := by decide +kernel
theorem dX2_tellStatement_68 : decode cX2_tellStatement 68 = .ok (.aload_n 1, 1) := by decide +kernel
theorem dX2_tellStatement_69 : decode cX2_tellStatement 69 = .ok (.aload_n 0, 1) := by decide +kernel
theorem dX2_tellStatement_70 : decode cX2_tellStatement 70 = .ok (.getfield 9, 3) := by decide +kernel
theorem dX2_tellStatement_73 : decode cX2_tellStatement 73 = .ok (.iload_n 2, 1) := by decide +kernel
theorem dX2_tellStatement_74 : decode cX2_tellStatement 74 = .ok (.iconst 1, 1) := by decide +kernel
theorem dX2_tellStatement_75 : decode cX2_tellStatement 75 = .ok (.iadd, 1) := by decide +kernel
theorem dX2_tellStatement_76 : decode cX2_tellStatement 76 = .ok (.invokestatic 33, 3) := by decide +kernel
theorem dX2_tellStatement_79 : decode cX2_tellStatement 79 = .ok (.invokestatic 44, 3) := by decide +kernel
theorem dX2_tellStatement_82 : decode cX2_tellStatement 82 = .ok (.aload_n 0, 1) := by decide +kernel
theorem dX2_tellStatement_83 : decode cX2_tellStatement 83 = .ok (.iload_n 2, 1) := by decide +kernel
theorem dX2_tellStatement_84 : decode cX2_tellStatement 84 = .ok (.iconst 2, 1) := by decide +kernel
theorem dX2_tellStatement_85 : decode cX2_tellStatement 85 = .ok (.iadd, 1) := by decide +kernel
theorem dX2_tellStatement_86 : decode cX2_tellStatement 86 = .ok (.iconst 1, 1) := by decide +kernel
theorem dX2_tellStatement_87 : decode cX2_tellStatement 87 = .ok (.invokevirtual 53, 3) := by decide +kernel
theorem dX2_tellStatement_90 : decode cX2_tellStatement 90 = .ok (.aload_n 0, 1) := by decide +kernel
theorem dX2_tellStatement_91 : decode cX2_tellStatement 91 = .ok (.iload_n 2, 1) := by decide +kernel
theorem dX2_tellStatement_92 : decode cX2_tellStatement 92 = .ok (.iconst 3, 1) := by decide +kernel
theorem dX2_tellStatement_93 : decode cX2_tellStatement 93 = .ok (.iadd, 1) := by decide +kernel
theorem dX2_tellStatement_94 : decode cX2_tellStatement 94 = .ok (.iconst 2, 1) := by decide +kernel
theorem dX2_tellStatement_95 : decode cX2_tellStatement 95 = .ok (.invokevirtual 53, 3) := by decide +kernel
theorem dX2_tellStatement_98 : decode cX2_tellStatement 98 = .ok (.aload_n 0, 1) := by decide +kernel
theorem dX2_tellStatement_99 : decode cX2_tellStatement 99 = .ok (.iload_n 2, 1) := by decide +kernel
theorem dX2_tellStatement_100 : decode cX2_tellStatement 100 = .ok (.iconst 5, 1) := by decide +kernel
theorem dX2_tellStatement_101 : decode cX2_tellStatement 101 = .ok (.iadd, 1) := by decide +kernel
theorem dX2_tellStatement_102 : decode cX2_tellStatement 102 = .ok (.iconst 2, 1) := by decide +kernel
theorem dX2_tellStatement_103 : decode cX2_tellStatement 103 = .ok (.invokevirtual 53, 3) := by decide +kernel
theorem dX2_tellStatement_106 : decode cX2_tellStatement 106 = .ok (.aload_n 0, 1) := by decide +kernel
theorem dX2_tellStatement_107 : decode cX2_tellStatement 107 = .ok (.iload_n 2, 1) := by decide +kernel
theorem dX2_tellStatement_108 : decode cX2_tellStatement 108 = .ok (.bipush 7, 2) := by decide +kernel
theorem dX2_tellStatement_110 : decode cX2_tellStatement 110 = .ok (.iadd, 1) := by decide +kernel
theorem dX2_tellStatement_111 : decode cX2_tellStatement 111 = .ok (.iconst 2, 1) := by decide +kernel
theorem dX2_tellStatement_112 : decode cX2_tellStatement 112 = .ok (.invokevirtual 53, 3) := by decide +kernel
theorem dX2_tellStatement_115 : decode cX2_tellStatement 115 = .ok (.invokevirtual 57, 3) := by decide +kernel
theorem dX2_tellStatement_118 : decode cX2_tellStatement 118 = .ok (.ireturn, 1) := by decide +kernel
theorem dX2_tellStatement_119 : decode cX2_tellStatement 119 = .ok (.aload_n 1, 1) := by decide +kernel
theorem dX2_tellStatement_120 : decode cX2_tellStatement 120 = .ok (.iconst 0, 1) := by decide +kernel
theorem dX2_tellStatement_121 : decode cX2_tellStatement 121 = .ok (.aload_n 0, 1) := by decide +kernel
theorem dX2_tellStatement_122 : decode cX2_tellStatement 122 = .ok (.iload_n 2, 1) := by decide +kernel
theorem dX2_tellStatement_123 : decode cX2_tellStatement 123 = .ok (.iconst 1, 1) := by decide +kernel
theorem dX2_tellStatement_124 : decode cX2_tellStatement 124 = .ok (.iadd, 1) := by decide +kernel
theorem dX2_tellStatement_125 : decode cX2_tellStatement 125 = .ok (.iconst 2, 1) := by decide +kernel
theorem dX2_tellStatement_126 : decode cX2_tellStatement 126 = .ok (.invokevirtual 53, 3) := by decide +kernel
theorem dX2_tellStatement_129 : decode cX2_tellStatement 129 = .ok (.invokevirtual 61, 3) := by decide +kernel
theorem dX2_tellStatement_132 : decode cX2_tellStatement 132 = .ok (.ireturn, 1) := by decide +kernel
theorem dX2_tellStatement_133 : decode cX2_tellStatement 133 = .ok (.aload_n 1, 1) := by decide +kernel
theorem dX2_tellStatement_134 : decode cX2_tellStatement 134 = .ok (.iconst 1, 1) := by decide +kernel
theorem dX2_tellStatement_135 : decode cX2_tellStatement 135 = .ok (.aload_n 0, 1) := by decide +kernel
theorem dX2_tellStatement_136 : decode cX2_tellStatement 136 = .ok (.iload_n 2, 1) := by decide +kernel
theorem dX2_tellStatement_137 : decode cX2_tellStatement 137 = .ok (.iconst 1, 1) := by decide +kernel
theorem dX2_tellStatement_138 : decode cX2_tellStatement 138 = .ok (.iadd, 1) := by decide +kernel
theorem dX2_tellStatement_139 : decode cX2_tellStatement 139 = .ok (.iconst 3, 1) := by decide +kernel
theorem dX2_tellStatement_140 : decode cX2_tellStatement 140 = .ok (.invokevirtual 53, 3) := by decide +kernel
theorem dX2_tellStatement_143 : decode cX2_tellStatement 143 = .ok (.invokevirtual 61, 3) := by decide +kernel
theorem dX2_tellStatement_146 : decode cX2_tellStatement 146 = .ok (.ireturn, 1) := by decide +kernel
theorem dX2_tellStatement_147 : decode cX2_tellStatement 147 = .ok (.aload_n 1, 1) := by decide +kernel
theorem dX2_tellStatement_148 : decode cX2_tellStatement 148 = .ok (.iconst 2, 1) := by decide +kernel
theorem dX2_tellStatement_149 : decode cX2_tellStatement 149 = .ok (.aload_n 0, 1) := by decide +kernel
theorem dX2_tellStatement_150 : decode cX2_tellStatement 150 = .ok (.iload_n 2, 1) := by decide +kernel
theorem dX2_tellStatement_151 : decode cX2_tellStatement 151 = .ok (.iconst 1, 1) := by decide +kernel
theorem dX2_tellStatement_152 : decode cX2_tellStatement 152 = .ok (.iadd, 1) := by decide +kernel
theorem dX2_tellStatement_153 : decode cX2_tellStatement 153 = .ok (.iconst 1, 1) := by decide +kernel
theorem dX2_tellStatement_154 : decode cX2_tellStatement 154 = .ok (.invokevirtual 53, 3) := by decide +kernel
theorem dX2_tellStatement_157 : decode cX2_tellStatement 157 = .ok (.invokevirtual 61, 3) := by decide +kernel
theorem dX2_tellStatement_160 : decode cX2_tellStatement 160 = .ok (.ireturn, 1) := by decide +kernel
theorem dX2_tellStatement_161 : decode cX2_tellStatement 161 = .ok (.aload_n 1, 1) := by decide +kernel
theorem dX2_tellStatement_162 : decode cX2_tellStatement 162 = .ok (.aload_n 0, 1) := by decide +kernel
theorem dX2_tellStatement_163 : decode cX2_tellStatement 163 = .ok (.iload_n 2, 1) := by decide +kernel
theorem dX2_tellStatement_164 : decode cX2_tellStatement 164 = .ok (.iconst 1, 1) := by decide +kernel
theorem dX2_tellStatement_165 : decode cX2_tellStatement 165 = .ok (.iadd, 1) := by decide +kernel
theorem dX2_tellStatement_166 : decode cX2_tellStatement 166 = .ok (.iconst 1, 1) := by decide +kernel
theorem dX2_tellStatement_167 : decode cX2_tellStatement 167 = .ok (.invokevirtual 53, 3) := by decide +kernel
theorem dX2_tellStatement_170 : decode cX2_tellStatement 170 = .ok (.aload_n 0, 1) := by decide +kernel
theorem dX2_tellStatement_171 : decode cX2_tellStatement 171 = .ok (.iload_n 2, 1) := by decide +kernel
theorem dX2_tellStatement_172 : decode cX2_tellStatement 172 = .ok (.iconst 2, 1) := by decide +kernel
theorem dX2_tellStatement_173 : decode cX2_tellStatement 173 = .ok (.iadd, 1) := by decide +kernel
theorem dX2_tellStatement_174 : decode cX2_tellStatement 174 = .ok (.iconst 1, 1) := by decide +kernel
theorem dX2_tellStatement_175 : decode cX2_tellStatement 175 = .ok (.invokevirtual 53, 3) := by decide +kernel
theorem dX2_tellStatement_178 : decode cX2_tellStatement 178 = .ok (.invokevirtual 65, 3) := by decide +kernel
theorem dX2_tellStatement_181 : decode cX2_tellStatement 181 = .ok (.ireturn, 1) := by decide +kernel
theorem dX2_tellStatement_182 : decode cX2_tellStatement 182 = .ok (.aload_n 1, 1) := by decide +kernel
theorem dX2_tellStatement_183 : decode cX2_tellStatement 183 = .ok (.aload_n 0, 1) := by decide +kernel
theorem dX2_tellStatement_184 : decode cX2_tellStatement 184 = .ok (.iload_n 2, 1) := by decide +kernel
theorem dX2_tellStatement_185 : decode cX2_tellStatement 185 = .ok (.iconst 1, 1) := by decide +kernel
theorem dX2_tellStatement_186 : decode cX2_tellStatement 186 = .ok (.iadd, 1) := by decide +kernel
theorem dX2_tellStatement_187 : decode cX2_tellStatement 187 = .ok (.iconst 1, 1) := by decide +kernel
theorem dX2_tellStatement_188 : decode cX2_tellStatement 188 = .ok (.invokevirtual 53, 3) := by decide +kernel
theorem dX2_tellStatement_191 : decode cX2_tellStatement 191 = .ok (.aload_n 0, 1) := by decide +kernel
theorem dX2_tellStatement_192 : decode cX2_tellStatement 192 = .ok (.iload_n 2, 1) := by decide +kernel
theorem dX2_tellStatement_193 : decode cX2_tellStatement 193 = .ok (.iconst 2, 1) := by decide +kernel
theorem dX2_tellStatement_194 : decode cX2_tellStatement 194 = .ok (.iadd, 1) := by decide +kernel
theorem dX2_tellStatement_195 : decode cX2_tellStatement 195 = .ok (.iconst 2, 1) := by decide +kernel
theorem dX2_tellStatement_196 : decode cX2_tellStatement 196 = .ok (.invokevirtual 53, 3) := by decide +kernel
theorem dX2_tellStatement_199 : decode cX2_tellStatement 199 = .ok (.invokevirtual 68, 3) := by decide +kernel
theorem dX2_tellStatement_202 : decode cX2_tellStatement 202 = .ok (.ireturn, 1) := by decide +kernel
theorem dX2_tellStatement_203 : decode cX2_tellStatement 203 = .ok (.iconst 0, 1) := by decide +kernel
theorem dX2_tellStatement_204 : decode cX2_tellStatement 204 = .ok (.ireturn, 1) := by decide +kernel
theorem dX2_number_0 : decode cX2_number 0 = .ok (.iconst 0, 1) := by decide +kernel
theorem dX2_number_1 : decode cX2_number 1 = .ok (.istore_n 3, 1) := by decide +kernel
theorem dX2_number_2 : decode cX2_number 2 = .ok (.iload_n 1, 1) := by decide +kernel
theorem dX2_number_3 : decode cX2_number 3 = .ok (.istore 4, 2) := by decide +kernel
theorem dX2_number_5 : decode cX2_number 5 = .ok (.iload 4, 2) := by decide +kernel
theorem dX2_number_7 : decode cX2_number 7 = .ok (.iload_n 1, 1) := by decide +kernel
theorem dX2_number_8 : decode cX2_number 8 = .ok (.iload_n 2, 1) := by decide +kernel
theorem dX2_number_9 : decode cX2_number 9 = .ok (.iadd, 1) := by decide +kernel
theorem dX2_number_10 : decode cX2_number 10 = .ok (.if_icmp .ge 27, 3) := by decide +kernel
theorem dX2_number_13 : decode cX2_number 13 = .ok (.iload_n 3, 1) := by decide +kernel
theorem dX2_number_14 : decode cX2_number 14 = .ok (.bipush 10, 2) := by decide +kernel
theorem dX2_number_16 : decode cX2_number 16 = .ok (.imul, 1) := by decide +kernel
theorem dX2_number_17 : decode cX2_number 17 = .ok (.aload_n 0, 1) := by decide +kernel
theorem dX2_number_18 : decode cX2_number 18 = .ok (.getfield 9, 3) := by decide +kernel
theorem dX2_number_21 : decode cX2_number 21 = .ok (.iload 4, 2) := by decide +kernel
theorem dX2_number_23 : decode cX2_number 23 = .ok (.invokestatic 33, 3) := by decide +kernel
theorem dX2_number_26 : decode cX2_number 26 = .ok (.iadd, 1) := by decide +kernel
theorem dX2_number_27 : decode cX2_number 27 = .ok (.bipush 48, 2) := by decide +kernel
theorem dX2_number_29 : decode cX2_number 29 = .ok (.isub, 1) := by decide +kernel
theorem dX2_number_30 : decode cX2_number 30 = .ok (.istore_n 3, 1) := by decide +kernel
theorem dX2_number_31 : decode cX2_number 31 = .ok (.iinc 4 1, 3) := by decide +kernel
theorem dX2_number_34 : decode cX2_number 34 = .ok (.goto (-29), 3) := by decide +kernel
theorem dX2_number_37 : decode cX2_number 37 = .ok (.iload_n 3, 1) := by decide +kernel
theorem dX2_number_38 : decode cX2_number 38 = .ok (.ireturn, 1) := by decide +kernel
theorem dX2_digitsOf_0 : decode cX2_digitsOf 0 = .ok (.iload_n 0, 1) := by decide +kernel
theorem dX2_digitsOf_1 : decode cX2_digitsOf 1 = .ok (.lookupswitch 72 #[(100, 66), (103, 59), (104, 70), (111, 64), (112, 62), (120, 68)], 59) := by decide +kernel
theorem dX2_digitsOf_60 : decode cX2_digitsOf 60 = .ok (.bipush 7, 2) := by decide +kernel
theorem dX2_digitsOf_62 : decode cX2_digitsOf 62 = .ok (.ireturn, 1) := by decide +kernel
theorem dX2_digitsOf_63 : decode cX2_digitsOf 63 = .ok (.iconst 2, 1) := by decide +kernel
theorem dX2_digitsOf_64 : decode cX2_digitsOf 64 = .ok (.ireturn, 1) := by decide +kernel
theorem dX2_digitsOf_65 : decode cX2_digitsOf 65 = .ok (.iconst 3, 1) := by decide +kernel
theorem dX2_digitsOf_66 : decode cX2_digitsOf 66 = .ok (.ireturn, 1) := by decide +kernel
theorem dX2_digitsOf_67 : decode cX2_digitsOf 67 = .ok (.iconst 1, 1) := by decide +kernel
theorem dX2_digitsOf_68 : decode cX2_digitsOf 68 = .ok (.ireturn, 1) := by decide +kernel
theorem dX2_digitsOf_69 : decode cX2_digitsOf 69 = .ok (.iconst 2, 1) := by decide +kernel
theorem dX2_digitsOf_70 : decode cX2_digitsOf 70 = .ok (.ireturn, 1) := by decide +kernel
theorem dX2_digitsOf_71 : decode cX2_digitsOf 71 = .ok (.iconst 3, 1) := by decide +kernel
theorem dX2_digitsOf_72 : decode cX2_digitsOf 72 = .ok (.ireturn, 1) := by decide +kernel
theorem dX2_digitsOf_73 : decode cX2_digitsOf 73 = .ok (.iconst (-1), 1) := by decide +kernel
theorem dX2_digitsOf_74 : decode cX2_digitsOf 74 = .ok (.ireturn, 1) := by decide +kernel
theorem dX2_lengthOf_0 : decode cX2_lengthOf 0 = .ok (.iload_n 0, 1) := by decide +kernel
theorem dX2_lengthOf_1 : decode cX2_lengthOf 1 = .ok (.bipush 103, 2) := by decide +kernel
theorem dX2_lengthOf_3 : decode cX2_lengthOf 3 = .ok (.if_icmp .ne 7, 3) := by decide +kernel
theorem dX2_lengthOf_6 : decode cX2_lengthOf 6 = .ok (.iconst 3, 1) := by decide +kernel
theorem dX2_lengthOf_7 : decode cX2_lengthOf 7 = .ok (.goto 4, 3) := by decide +kernel
theorem dX2_lengthOf_10 : decode cX2_lengthOf 10 = .ok (.iconst 2, 1) := by decide +kernel
theorem dX2_lengthOf_11 : decode cX2_lengthOf 11 = .ok (.istore_n 1, 1) := by decide +kernel
theorem dX2_lengthOf_12 : decode cX2_lengthOf 12 = .ok (.iload_n 0, 1) := by decide +kernel
theorem dX2_lengthOf_13 : decode cX2_lengthOf 13 = .ok (.invokestatic 41, 3) := by decide +kernel
theorem dX2_lengthOf_16 : decode cX2_lengthOf 16 = .ok (.iload_n 1, 1) := by decide +kernel
theorem dX2_lengthOf_17 : decode cX2_lengthOf 17 = .ok (.iadd, 1) := by decide +kernel
theorem dX2_lengthOf_18 : decode cX2_lengthOf 18 = .ok (.ireturn, 1) := by decide +kernel
theorem dX2_kindOf_0 : decode cX2_kindOf 0 = .ok (.iload_n 0, 1) := by decide +kernel
theorem dX2_kindOf_1 : decode cX2_kindOf 1 = .ok (.tableswitch 99 99 116 #[93, 89, 99, 99, 87, 99, 99, 99, 99, 97, 91, 99, 99, 99, 99, 99, 99, 95], 87) := by decide +kernel
theorem dX2_kindOf_88 : decode cX2_kindOf 88 = .ok (.iconst 0, 1) := by decide +kernel
theorem dX2_kindOf_89 : decode cX2_kindOf 89 = .ok (.ireturn, 1) := by decide +kernel
theorem dX2_kindOf_90 : decode cX2_kindOf 90 = .ok (.iconst 1, 1) := by decide +kernel
theorem dX2_kindOf_91 : decode cX2_kindOf 91 = .ok (.ireturn, 1) := by decide +kernel
theorem dX2_kindOf_92 : decode cX2_kindOf 92 = .ok (.iconst 2, 1) := by decide +kernel
theorem dX2_kindOf_93 : decode cX2_kindOf 93 = .ok (.ireturn, 1) := by decide +kernel
theorem dX2_kindOf_94 : decode cX2_kindOf 94 = .ok (.iconst 3, 1) := by decide +kernel
theorem dX2_kindOf_95 : decode cX2_kindOf 95 = .ok (.ireturn, 1) := by decide +kernel
theorem dX2_kindOf_96 : decode cX2_kindOf 96 = .ok (.iconst 4, 1) := by decide +kernel
theorem dX2_kindOf_97 : decode cX2_kindOf 97 = .ok (.ireturn, 1) := by decide +kernel
theorem dX2_kindOf_98 : decode cX2_kindOf 98 = .ok (.iconst 5, 1) := by decide +kernel
theorem dX2_kindOf_99 : decode cX2_kindOf 99 = .ok (.ireturn, 1) := by decide +kernel
theorem dX2_kindOf_100 : decode cX2_kindOf 100 = .ok (.iconst (-1), 1) := by decide +kernel
theorem dX2_kindOf_101 : decode cX2_kindOf 101 = .ok (.ireturn, 1) := by decide +kernel
theorem dX2_isDigit_0 : decode cX2_isDigit 0 = .ok (.iload_n 0, 1) := by decide +kernel
theorem dX2_isDigit_1 : decode cX2_isDigit 1 = .ok (.bipush 48, 2) := by decide +kernel
theorem dX2_isDigit_3 : decode cX2_isDigit 3 = .ok (.if_icmp .lt 13, 3) := by decide +kernel
theorem dX2_isDigit_6 : decode cX2_isDigit 6 = .ok (.iload_n 0, 1) := by decide +kernel
theorem dX2_isDigit_7 : decode cX2_isDigit 7 = .ok (.bipush 57, 2) := by decide +kernel
theorem dX2_isDigit_9 : decode cX2_isDigit 9 = .ok (.if_icmp .gt 7, 3) := by decide +kernel
theorem dX2_isDigit_12 : decode cX2_isDigit 12 = .ok (.iconst 1, 1) := by decide +kernel
theorem dX2_isDigit_13 : decode cX2_isDigit 13 = .ok (.goto 4, 3) := by decide +kernel
theorem dX2_isDigit_16 : decode cX2_isDigit 16 = .ok (.iconst 0, 1) := by decide +kernel
theorem dX2_isDigit_17 : decode cX2_isDigit 17 = .ok (.ireturn, 1) := by decide +kernel
theorem dX3_init_0 : decode cX3_init 0 = .ok (.aload_n 0, 1) := by decide +kernel
theorem dX3_init_1 : decode cX3_init 1 = .ok (.invokespecial 3, 3) := by decide +kernel
theorem dX3_init_4 : decode cX3_init 4 = .ok (.aload_n 0, 1) := by decide +kernel
theorem dX3_init_5 : decode cX3_init 5 = .ok (.bipush 7, 2) := by decide +kernel
theorem dX3_init_7 : decode cX3_init 7 = .ok (.newarray .int, 2) := by decide +kernel
theorem dX3_init_9 : decode cX3_init 9 = .ok (.putfield 9, 3) := by decide +kernel
theorem dX3_init_12 : decode cX3_init 12 = .ok (.aload_n 0, 1) := by decide +kernel
theorem dX3_init_13 : decode cX3_init 13 = .ok (.bipush 7, 2) := by decide +kernel
theorem dX3_init_15 : decode cX3_init 15 = .ok (.newarray .int, 2) := by decide +kernel
theorem dX3_init_17 : decode cX3_init 17 = .ok (.putfield 15, 3) := by decide +kernel
theorem dX3_init_20 : decode cX3_init 20 = .ok (.return_, 1) := by decide +kernel
theorem dX3_search_0 : decode cX3_search 0 = .ok (.aload_n 0, 1) := by decide +kernel
theorem dX3_search_1 : decode cX3_search 1 = .ok (.iconst 0, 1) := by decide +kernel
theorem dX3_search_2 : decode cX3_search 2 = .ok (.putfield 18, 3) := by decide +kernel
theorem dX3_search_5 : decode cX3_search 5 = .ok (.aload_n 0, 1) := by decide +kernel
theorem dX3_search_6 : decode cX3_search 6 = .ok (.iconst 0, 1) := by decide +kernel
theorem dX3_search_7 : decode cX3_search 7 = .ok (.putfield 22, 3) := by decide +kernel
theorem dX3_search_10 : decode cX3_search 10 = .ok (.iconst 0, 1) := by decide +kernel
theorem dX3_search_11 : decode cX3_search 11 = .ok (.istore 4, 2) := by decide +kernel
theorem dX3_search_13 : decode cX3_search 13 = .ok (.iload 4, 2) := by decide +kernel
theorem dX3_search_15 : decode cX3_search 15 = .ok (.aload_n 1, 1) := by decide +kernel
theorem dX3_search_16 : decode cX3_search 16 = .ok (.getfield 26, 3) := by decide +kernel
theorem dX3_search_19 : decode cX3_search 19 = .ok (.if_icmp .ge 20, 3) := by decide +kernel
theorem dX3_search_22 : decode cX3_search 22 = .ok (.aload_n 0, 1) := by decide +kernel
theorem dX3_search_23 : decode cX3_search 23 = .ok (.getfield 15, 3) := by decide +kernel
theorem dX3_search_26 : decode cX3_search 26 = .ok (.iload 4, 2) := by decide +kernel
theorem dX3_search_28 : decode cX3_search 28 = .ok (.iload 4, 2) := by decide +kernel
theorem dX3_search_30 : decode cX3_search 30 = .ok (.invokestatic 31, 3) := by decide +kernel
theorem dX3_search_33 : decode cX3_search 33 = .ok (.iinc 4 1, 3) := by decide +kernel
theorem dX3_search_36 : decode cX3_search 36 = .ok (.goto (-23), 3) := by decide +kernel
theorem dX3_search_39 : decode cX3_search 39 = .ok (.iconst 1, 1) := by decide +kernel
theorem dX3_search_40 : decode cX3_search 40 = .ok (.istore 4, 2) := by decide +kernel
theorem dX3_search_42 : decode cX3_search 42 = .ok (.iconst 0, 1) := by decide +kernel
theorem dX3_search_43 : decode cX3_search 43 = .ok (.istore 5, 2) := by decide +kernel
theorem dX3_search_45 : decode cX3_search 45 = .ok (.iload 5, 2) := by decide +kernel
theorem dX3_search_47 : decode cX3_search 47 = .ok (.sipush 720, 3) := by decide +kernel
theorem dX3_search_50 : decode cX3_search 50 = .ok (.if_icmp .ge 100, 3) := by decide +kernel
theorem dX3_search_53 : decode cX3_search 53 = .ok (.iload 4, 2) := by decide +kernel
theorem dX3_search_55 : decode cX3_search 55 = .ok (.ifCond .eq 95, 3) := by decide +kernel
theorem dX3_search_58 : decode cX3_search 58 = .ok (.aload_n 2, 1) := by decide +kernel
theorem dX3_search_59 : decode cX3_search 59 = .ok (.aload_n 1, 1) := by decide +kernel
theorem dX3_search_60 : decode cX3_search 60 = .ok (.aload_n 0, 1) := by decide +kernel
theorem dX3_search_61 : decode cX3_search 61 = .ok (.getfield 15, 3) := by decide +kernel
theorem dX3_search_64 : decode cX3_search 64 = .ok (.invokevirtual 37, 3) := by decide +kernel
theorem dX3_search_67 : decode cX3_search 67 = .ok (.istore 6, 2) := by decide +kernel
theorem dX3_search_69 : decode cX3_search 69 = .ok (.iload_n 3, 1) := by decide +kernel
theorem dX3_search_70 : decode cX3_search 70 = .ok (.ifCond .eq 14, 3) := by decide +kernel
theorem dX3_search_73 : decode cX3_search 73 = .ok (.aload_n 2, 1) := by decide +kernel
theorem dX3_search_74 : decode cX3_search 74 = .ok (.invokevirtual 43, 3) := by decide +kernel
theorem dX3_search_77 : decode cX3_search 77 = .ok (.aload_n 1, 1) := by decide +kernel
theorem dX3_search_78 : decode cX3_search 78 = .ok (.invokevirtual 47, 3) := by decide +kernel
theorem dX3_search_81 : decode cX3_search 81 = .ok (.if_icmp .ne 7, 3) := by decide +kernel
theorem dX3_search_84 : decode cX3_search 84 = .ok (.iconst 1, 1) := by decide +kernel
theorem dX3_search_85 : decode cX3_search 85 = .ok (.goto 4, 3) := by decide +kernel
theorem dX3_search_88 : decode cX3_search 88 = .ok (.iconst 0, 1) := by decide +kernel
theorem dX3_search_89 : decode cX3_search 89 = .ok (.istore 7, 2) := by decide +kernel
theorem dX3_search_91 : decode cX3_search 91 = .ok (.iload 7, 2) := by decide +kernel
theorem dX3_search_93 : decode cX3_search 93 = .ok (.ifCond .eq 41, 3) := by decide +kernel
theorem dX3_search_96 : decode cX3_search 96 = .ok (.aload_n 0, 1) := by decide +kernel
theorem dX3_search_97 : decode cX3_search 97 = .ok (.getfield 18, 3) := by decide +kernel
theorem dX3_search_100 : decode cX3_search 100 = .ok (.ifCond .eq 12, 3) := by decide +kernel
theorem dX3_search_103 : decode cX3_search 103 = .ok (.iload 6, 2) := by decide +kernel
theorem dX3_search_105 : decode cX3_search 105 = .ok (.aload_n 0, 1) := by decide +kernel
theorem dX3_search_106 : decode cX3_search 106 = .ok (.getfield 22, 3) := by decide +kernel
theorem dX3_search_109 : decode cX3_search 109 = .ok (.if_icmp .ge 25, 3) := by decide +kernel
theorem dX3_search_112 : decode cX3_search 112 = .ok (.aload_n 0, 1) := by decide +kernel
theorem dX3_search_113 : decode cX3_search 113 = .ok (.iconst 1, 1) := by decide +kernel
theorem dX3_search_114 : decode cX3_search 114 = .ok (.putfield 18, 3) := by decide +kernel
theorem dX3_search_117 : decode cX3_search 117 = .ok (.aload_n 0, 1) := by decide +kernel
theorem dX3_search_118 : decode cX3_search 118 = .ok (.iload 6, 2) := by decide +kernel
theorem dX3_search_120 : decode cX3_search 120 = .ok (.putfield 22, 3) := by decide +kernel
theorem dX3_search_123 : decode cX3_search 123 = .ok (.aload_n 0, 1) := by decide +kernel
theorem dX3_search_124 : decode cX3_search 124 = .ok (.getfield 15, 3) := by decide +kernel
theorem dX3_search_127 : decode cX3_search 127 = .ok (.aload_n 0, 1) := by decide +kernel
theorem dX3_search_128 : decode cX3_search 128 = .ok (.getfield 9, 3) := by decide +kernel
theorem dX3_search_131 : decode cX3_search 131 = .ok (.invokestatic 50, 3) := by decide +kernel
theorem dX3_search_134 : decode cX3_search 134 = .ok (.aload_n 0, 1) := by decide +kernel
theorem dX3_search_135 : decode cX3_search 135 = .ok (.aload_n 1, 1) := by decide +kernel
theorem dX3_search_136 : decode cX3_search 136 = .ok (.getfield 26, 3) := by decide +kernel
theorem dX3_search_139 : decode cX3_search 139 = .ok (.invokevirtual 54, 3) := by decide +kernel
theorem dX3_search_142 : decode cX3_search 142 = .ok (.istore 4, 2) := by decide +kernel
theorem dX3_search_144 : decode cX3_search 144 = .ok (.iinc 5 1, 3) := by decide +kernel
theorem dX3_search_147 : decode cX3_search 147 = .ok (.goto (-102), 3) := by decide +kernel
theorem dX3_search_150 : decode cX3_search 150 = .ok (.return_, 1) := by decide +kernel
theorem dX3_next_0 : decode cX3_next 0 = .ok (.iload_n 1, 1) := by decide +kernel
theorem dX3_next_1 : decode cX3_next 1 = .ok (.iconst 2, 1) := by decide +kernel
theorem dX3_next_2 : decode cX3_next 2 = .ok (.isub, 1) := by decide +kernel
theorem dX3_next_3 : decode cX3_next 3 = .ok (.istore_n 2, 1) := by decide +kernel
theorem dX3_next_4 : decode cX3_next 4 = .ok (.iload_n 2, 1) := by decide +kernel
theorem dX3_next_5 : decode cX3_next 5 = .ok (.ifCond .lt 30, 3) := by decide +kernel
theorem dX3_next_8 : decode cX3_next 8 = .ok (.aload_n 0, 1) := by decide +kernel
theorem dX3_next_9 : decode cX3_next 9 = .ok (.getfield 15, 3) := by decide +kernel
theorem dX3_next_12 : decode cX3_next 12 = .ok (.iload_n 2, 1) := by decide +kernel
theorem dX3_next_13 : decode cX3_next 13 = .ok (.invokestatic 58, 3) := by decide +kernel
theorem dX3_next_16 : decode cX3_next 16 = .ok (.aload_n 0, 1) := by decide +kernel
theorem dX3_next_17 : decode cX3_next 17 = .ok (.getfield 15, 3) := by decide +kernel
theorem dX3_next_20 : decode cX3_next 20 = .ok (.iload_n 2, 1) := by decide +kernel
theorem dX3_next_21 : decode cX3_next 21 = .ok (.iconst 1, 1) := by decide +kernel
theorem dX3_next_22 : decode cX3_next 22 = .ok (.iadd, 1) := by decide +kernel
theorem dX3_next_23 : decode cX3_next 23 = .ok (.invokestatic 58, 3) := by decide +kernel
theorem dX3_next_26 : decode cX3_next 26 = .ok (.if_icmp .le 9, 3) := by decide +kernel
theorem dX3_next_29 : decode cX3_next 29 = .ok (.iinc 2 (-1), 3) := by decide +kernel
theorem dX3_next_32 : decode cX3_next 32 = .ok (.goto (-28), 3) := by decide +kernel
theorem dX3_next_35 : decode cX3_next 35 = .ok (.iload_n 2, 1) := by decide +kernel
theorem dX3_next_36 : decode cX3_next 36 = .ok (.ifCond .ge 5, 3) := by decide +kernel
theorem dX3_next_39 : decode cX3_next 39 = .ok (.iconst 0, 1) := by decide +kernel
theorem dX3_next_40 : decode cX3_next 40 = .ok (.ireturn, 1) := by decide +kernel
theorem dX3_next_41 : decode cX3_next 41 = .ok (.iload_n 1, 1) := by decide +kernel
theorem dX3_next_42 : decode cX3_next 42 = .ok (.iconst 1, 1) := by decide +kernel
theorem dX3_next_43 : decode cX3_next 43 = .ok (.isub, 1) := by decide +kernel
theorem dX3_next_44 : decode cX3_next 44 = .ok (.istore_n 3, 1) := by decide +kernel
theorem dX3_next_45 : decode cX3_next 45 = .ok (.iload_n 3, 1) := by decide +kernel
theorem dX3_next_46 : decode cX3_next 46 = .ok (.iload_n 2, 1) := by decide +kernel
theorem dX3_next_47 : decode cX3_next 47 = .ok (.if_icmp .le 28, 3) := by decide +kernel
theorem dX3_next_50 : decode cX3_next 50 = .ok (.aload_n 0, 1) := by decide +kernel
theorem dX3_next_51 : decode cX3_next 51 = .ok (.getfield 15, 3) := by decide +kernel
theorem dX3_next_54 : decode cX3_next 54 = .ok (.iload_n 3, 1) := by decide +kernel
theorem dX3_next_55 : decode cX3_next 55 = .ok (.invokestatic 58, 3) := by decide +kernel
theorem dX3_next_58 : decode cX3_next 58 = .ok (.aload_n 0, 1) := by decide +kernel
theorem dX3_next_59 : decode cX3_next 59 = .ok (.getfield 15, 3) := by decide +kernel
theorem dX3_next_62 : decode cX3_next 62 = .ok (.iload_n 2, 1) := by decide +kernel
theorem dX3_next_63 : decode cX3_next 63 = .ok (.invokestatic 58, 3) := by decide +kernel
theorem dX3_next_66 : decode cX3_next 66 = .ok (.if_icmp .ge 9, 3) := by decide +kernel
theorem dX3_next_69 : decode cX3_next 69 = .ok (.iinc 3 (-1), 3) := by decide +kernel
theorem dX3_next_72 : decode cX3_next 72 = .ok (.goto (-27), 3) := by decide +kernel
theorem dX3_next_75 : decode cX3_next 75 = .ok (.aload_n 0, 1) := by decide +kernel
theorem dX3_next_76 : decode cX3_next 76 = .ok (.getfield 15, 3) := by decide +kernel
theorem dX3_next_79 : decode cX3_next 79 = .ok (.iload_n 2, 1) := by decide +kernel
theorem dX3_next_80 : decode cX3_next 80 = .ok (.iload_n 3, 1) := by decide +kernel
theorem dX3_next_81 : decode cX3_next 81 = .ok (.invokestatic 62, 3) := by decide +kernel
theorem dX3_next_84 : decode cX3_next 84 = .ok (.iload_n 2, 1) := by decide +kernel
theorem dX3_next_85 : decode cX3_next 85 = .ok (.iconst 1, 1) := by decide +kernel
theorem dX3_next_86 : decode cX3_next 86 = .ok (.iadd, 1) := by decide +kernel
theorem dX3_next_87 : decode cX3_next 87 = .ok (.istore 4, 2) := by decide +kernel
theorem dX3_next_89 : decode cX3_next 89 = .ok (.iload_n 1, 1) := by decide +kernel
theorem dX3_next_90 : decode cX3_next 90 = .ok (.iconst 1, 1) := by decide +kernel
theorem dX3_next_91 : decode cX3_next 91 = .ok (.isub, 1) := by decide +kernel
theorem dX3_next_92 : decode cX3_next 92 = .ok (.istore 5, 2) := by decide +kernel
theorem dX3_next_94 : decode cX3_next 94 = .ok (.iload 4, 2) := by decide +kernel
theorem dX3_next_96 : decode cX3_next 96 = .ok (.iload 5, 2) := by decide +kernel
theorem dX3_next_98 : decode cX3_next 98 = .ok (.if_icmp .ge 23, 3) := by decide +kernel
theorem dX3_next_101 : decode cX3_next 101 = .ok (.aload_n 0, 1) := by decide +kernel
theorem dX3_next_102 : decode cX3_next 102 = .ok (.getfield 15, 3) := by decide +kernel
theorem dX3_next_105 : decode cX3_next 105 = .ok (.iload 4, 2) := by decide +kernel
theorem dX3_next_107 : decode cX3_next 107 = .ok (.iload 5, 2) := by decide +kernel
theorem dX3_next_109 : decode cX3_next 109 = .ok (.invokestatic 62, 3) := by decide +kernel
theorem dX3_next_112 : decode cX3_next 112 = .ok (.iinc 4 1, 3) := by decide +kernel
theorem dX3_next_115 : decode cX3_next 115 = .ok (.iinc 5 (-1), 3) := by decide +kernel
theorem dX3_next_118 : decode cX3_next 118 = .ok (.goto (-24), 3) := by decide +kernel
theorem dX3_next_121 : decode cX3_next 121 = .ok (.iconst 1, 1) := by decide +kernel
theorem dX3_next_122 : decode cX3_next 122 = .ok (.ireturn, 1) := by decide +kernel
theorem dX4_at_0 : decode cX4_at 0 = .ok (.iload_n 1, 1) := by decide +kernel
theorem dX4_at_1 : decode cX4_at 1 = .ok (.ifCond .lt 15, 3) := by decide +kernel
theorem dX4_at_4 : decode cX4_at 4 = .ok (.iload_n 1, 1) := by decide +kernel
theorem dX4_at_5 : decode cX4_at 5 = .ok (.aload_n 0, 1) := by decide +kernel
theorem dX4_at_6 : decode cX4_at 6 = .ok (.arraylength, 1) := by decide +kernel
theorem dX4_at_7 : decode cX4_at 7 = .ok (.if_icmp .ge 9, 3) := by decide +kernel
theorem dX4_at_10 : decode cX4_at 10 = .ok (.aload_n 0, 1) := by decide +kernel
theorem dX4_at_11 : decode cX4_at 11 = .ok (.iload_n 1, 1) := by decide +kernel
theorem dX4_at_12 : decode cX4_at 12 = .ok (.iaload, 1) := by decide +kernel
theorem dX4_at_13 : decode cX4_at 13 = .ok (.goto 4, 3) := by decide +kernel
theorem dX4_at_16 : decode cX4_at 16 = .ok (.iconst 0, 1) := by decide +kernel
theorem dX4_at_17 : decode cX4_at 17 = .ok (.ireturn, 1) := by decide +kernel
theorem dX4_put_0 : decode cX4_put 0 = .ok (.iload_n 1, 1) := by decide +kernel
theorem dX4_put_1 : decode cX4_put 1 = .ok (.ifCond .lt 13, 3) := by decide +kernel
theorem dX4_put_4 : decode cX4_put 4 = .ok (.iload_n 1, 1) := by decide +kernel
theorem dX4_put_5 : decode cX4_put 5 = .ok (.aload_n 0, 1) := by decide +kernel
theorem dX4_put_6 : decode cX4_put 6 = .ok (.arraylength, 1) := by decide +kernel
theorem dX4_put_7 : decode cX4_put 7 = .ok (.if_icmp .ge 7, 3) := by decide +kernel
theorem dX4_put_10 : decode cX4_put 10 = .ok (.aload_n 0, 1) := by decide +kernel
theorem dX4_put_11 : decode cX4_put 11 = .ok (.iload_n 1, 1) := by decide +kernel
theorem dX4_put_12 : decode cX4_put 12 = .ok (.iload_n 2, 1) := by decide +kernel
theorem dX4_put_13 : decode cX4_put 13 = .ok (.iastore, 1) := by decide +kernel
theorem dX4_put_14 : decode cX4_put 14 = .ok (.return_, 1) := by decide +kernel
theorem dX4_copy_0 : decode cX4_copy 0 = .ok (.iconst 0, 1) := by decide +kernel
theorem dX4_copy_1 : decode cX4_copy 1 = .ok (.istore_n 2, 1) := by decide +kernel
theorem dX4_copy_2 : decode cX4_copy 2 = .ok (.iload_n 2, 1) := by decide +kernel
theorem dX4_copy_3 : decode cX4_copy 3 = .ok (.aload_n 0, 1) := by decide +kernel
theorem dX4_copy_4 : decode cX4_copy 4 = .ok (.arraylength, 1) := by decide +kernel
theorem dX4_copy_5 : decode cX4_copy 5 = .ok (.if_icmp .ge 21, 3) := by decide +kernel
theorem dX4_copy_8 : decode cX4_copy 8 = .ok (.iload_n 2, 1) := by decide +kernel
theorem dX4_copy_9 : decode cX4_copy 9 = .ok (.aload_n 1, 1) := by decide +kernel
theorem dX4_copy_10 : decode cX4_copy 10 = .ok (.arraylength, 1) := by decide +kernel
theorem dX4_copy_11 : decode cX4_copy 11 = .ok (.if_icmp .ge 15, 3) := by decide +kernel
theorem dX4_copy_14 : decode cX4_copy 14 = .ok (.aload_n 1, 1) := by decide +kernel
theorem dX4_copy_15 : decode cX4_copy 15 = .ok (.iload_n 2, 1) := by decide +kernel
theorem dX4_copy_16 : decode cX4_copy 16 = .ok (.aload_n 0, 1) := by decide +kernel
theorem dX4_copy_17 : decode cX4_copy 17 = .ok (.iload_n 2, 1) := by decide +kernel
theorem dX4_copy_18 : decode cX4_copy 18 = .ok (.iaload, 1) := by decide +kernel
theorem dX4_copy_19 : decode cX4_copy 19 = .ok (.iastore, 1) := by decide +kernel
theorem dX4_copy_20 : decode cX4_copy 20 = .ok (.iinc 2 1, 3) := by decide +kernel
theorem dX4_copy_23 : decode cX4_copy 23 = .ok (.goto (-21), 3) := by decide +kernel
theorem dX4_copy_26 : decode cX4_copy 26 = .ok (.return_, 1) := by decide +kernel
theorem dX4_exchange_0 : decode cX4_exchange 0 = .ok (.aload_n 0, 1) := by decide +kernel
theorem dX4_exchange_1 : decode cX4_exchange 1 = .ok (.iload_n 1, 1) := by decide +kernel
theorem dX4_exchange_2 : decode cX4_exchange 2 = .ok (.invokestatic 7, 3) := by decide +kernel
theorem dX4_exchange_5 : decode cX4_exchange 5 = .ok (.istore_n 3, 1) := by decide +kernel
theorem dX4_exchange_6 : decode cX4_exchange 6 = .ok (.aload_n 0, 1) := by decide +kernel
theorem dX4_exchange_7 : decode cX4_exchange 7 = .ok (.iload_n 1, 1) := by decide +kernel
theorem dX4_exchange_8 : decode cX4_exchange 8 = .ok (.aload_n 0, 1) := by decide +kernel
theorem dX4_exchange_9 : decode cX4_exchange 9 = .ok (.iload_n 2, 1) := by decide +kernel
theorem dX4_exchange_10 : decode cX4_exchange 10 = .ok (.invokestatic 7, 3) := by decide +kernel
theorem dX4_exchange_13 : decode cX4_exchange 13 = .ok (.invokestatic 13, 3) := by decide +kernel
theorem dX4_exchange_16 : decode cX4_exchange 16 = .ok (.aload_n 0, 1) := by decide +kernel
theorem dX4_exchange_17 : decode cX4_exchange 17 = .ok (.iload_n 2, 1) := by decide +kernel
theorem dX4_exchange_18 : decode cX4_exchange 18 = .ok (.iload_n 3, 1) := by decide +kernel
theorem dX4_exchange_19 : decode cX4_exchange 19 = .ok (.invokestatic 13, 3) := by decide +kernel
theorem dX4_exchange_22 : decode cX4_exchange 22 = .ok (.return_, 1) := by decide +kernel
theorem dX5_init_0 : decode cX5_init 0 = .ok (.aload_n 0, 1) := by decide +kernel
theorem dX5_init_1 : decode cX5_init 1 = .ok (.invokespecial 3, 3) := by decide +kernel
theorem dX5_init_4 : decode cX5_init 4 = .ok (.aload_n 0, 1) := by decide +kernel
theorem dX5_init_5 : decode cX5_init 5 = .ok (.bipush 7, 2) := by decide +kernel
theorem dX5_init_7 : decode cX5_init 7 = .ok (.newarray .int, 2) := by decide +kernel
theorem dX5_init_9 : decode cX5_init 9 = .ok (.putfield 9, 3) := by decide +kernel
theorem dX5_init_12 : decode cX5_init 12 = .ok (.aload_n 0, 1) := by decide +kernel
theorem dX5_init_13 : decode cX5_init 13 = .ok (.bipush 7, 2) := by decide +kernel
theorem dX5_init_15 : decode cX5_init 15 = .ok (.newarray .int, 2) := by decide +kernel
theorem dX5_init_17 : decode cX5_init 17 = .ok (.putfield 15, 3) := by decide +kernel
theorem dX5_init_20 : decode cX5_init 20 = .ok (.aload_n 0, 1) := by decide +kernel
theorem dX5_init_21 : decode cX5_init 21 = .ok (.bipush 7, 2) := by decide +kernel
theorem dX5_init_23 : decode cX5_init 23 = .ok (.newarray .int, 2) := by decide +kernel
theorem dX5_init_25 : decode cX5_init 25 = .ok (.putfield 18, 3) := by decide +kernel
theorem dX5_init_28 : decode cX5_init 28 = .ok (.aload_n 0, 1) := by decide +kernel
theorem dX5_init_29 : decode cX5_init 29 = .ok (.bipush 7, 2) := by decide +kernel
theorem dX5_init_31 : decode cX5_init 31 = .ok (.newarray .int, 2) := by decide +kernel
theorem dX5_init_33 : decode cX5_init 33 = .ok (.putfield 21, 3) := by decide +kernel
theorem dX5_init_36 : decode cX5_init 36 = .ok (.aload_n 0, 1) := by decide +kernel
theorem dX5_init_37 : decode cX5_init 37 = .ok (.bipush 7, 2) := by decide +kernel
theorem dX5_init_39 : decode cX5_init 39 = .ok (.newarray .int, 2) := by decide +kernel
theorem dX5_init_41 : decode cX5_init 41 = .ok (.putfield 24, 3) := by decide +kernel
theorem dX5_init_44 : decode cX5_init 44 = .ok (.aload_n 0, 1) := by decide +kernel
theorem dX5_init_45 : decode cX5_init 45 = .ok (.bipush 7, 2) := by decide +kernel
theorem dX5_init_47 : decode cX5_init 47 = .ok (.newarray .int, 2) := by decide +kernel
theorem dX5_init_49 : decode cX5_init 49 = .ok (.putfield 27, 3) := by decide +kernel
theorem dX5_init_52 : decode cX5_init 52 = .ok (.aload_n 0, 1) := by decide +kernel
theorem dX5_init_53 : decode cX5_init 53 = .ok (.bipush 7, 2) := by decide +kernel
theorem dX5_init_55 : decode cX5_init 55 = .ok (.newarray .int, 2) := by decide +kernel
theorem dX5_init_57 : decode cX5_init 57 = .ok (.putfield 30, 3) := by decide +kernel
theorem dX5_init_60 : decode cX5_init 60 = .ok (.aload_n 0, 1) := by decide +kernel
theorem dX5_init_61 : decode cX5_init 61 = .ok (.bipush 12, 2) := by decide +kernel
theorem dX5_init_63 : decode cX5_init 63 = .ok (.newarray .int, 2) := by decide +kernel
theorem dX5_init_65 : decode cX5_init 65 = .ok (.putfield 33, 3) := by decide +kernel
theorem dX5_init_68 : decode cX5_init 68 = .ok (.aload_n 0, 1) := by decide +kernel
theorem dX5_init_69 : decode cX5_init 69 = .ok (.iconst 2, 1) := by decide +kernel
theorem dX5_init_70 : decode cX5_init 70 = .ok (.newarray .int, 2) := by decide +kernel
theorem dX5_init_72 : decode cX5_init 72 = .ok (.putfield 36, 3) := by decide +kernel
theorem dX5_init_75 : decode cX5_init 75 = .ok (.aload_n 0, 1) := by decide +kernel
theorem dX5_init_76 : decode cX5_init 76 = .ok (.iconst 2, 1) := by decide +kernel
theorem dX5_init_77 : decode cX5_init 77 = .ok (.newarray .int, 2) := by decide +kernel
theorem dX5_init_79 : decode cX5_init 79 = .ok (.putfield 39, 3) := by decide +kernel
theorem dX5_init_82 : decode cX5_init 82 = .ok (.return_, 1) := by decide +kernel
theorem dX5_firstLamp_0 : decode cX5_firstLamp 0 = .ok (.aload_n 0, 1) := by decide +kernel
theorem dX5_firstLamp_1 : decode cX5_firstLamp 1 = .ok (.getfield 36, 3) := by decide +kernel
theorem dX5_firstLamp_4 : decode cX5_firstLamp 4 = .ok (.iconst 0, 1) := by decide +kernel
theorem dX5_firstLamp_5 : decode cX5_firstLamp 5 = .ok (.invokestatic 42, 3) := by decide +kernel
theorem dX5_firstLamp_8 : decode cX5_firstLamp 8 = .ok (.ireturn, 1) := by decide +kernel
theorem dX5_oilLeft_0 : decode cX5_oilLeft 0 = .ok (.aload_n 0, 1) := by decide +kernel
theorem dX5_oilLeft_1 : decode cX5_oilLeft 1 = .ok (.getfield 39, 3) := by decide +kernel
theorem dX5_oilLeft_4 : decode cX5_oilLeft 4 = .ok (.iconst 0, 1) := by decide +kernel
theorem dX5_oilLeft_5 : decode cX5_oilLeft 5 = .ok (.invokestatic 42, 3) := by decide +kernel
theorem dX5_oilLeft_8 : decode cX5_oilLeft 8 = .ok (.ireturn, 1) := by decide +kernel
theorem dX5_byHours_0 : decode cX5_byHours 0 = .ok (.aload_n 0, 1) := by decide +kernel
theorem dX5_byHours_1 : decode cX5_byHours 1 = .ok (.aload_n 1, 1) := by decide +kernel
theorem dX5_byHours_2 : decode cX5_byHours 2 = .ok (.invokevirtual 48, 3) := by decide +kernel
theorem dX5_byHours_5 : decode cX5_byHours 5 = .ok (.iconst 0, 1) := by decide +kernel
theorem dX5_byHours_6 : decode cX5_byHours 6 = .ok (.istore_n 2, 1) := by decide +kernel
theorem dX5_byHours_7 : decode cX5_byHours 7 = .ok (.iload_n 2, 1) := by decide +kernel
theorem dX5_byHours_8 : decode cX5_byHours 8 = .ok (.bipush 12, 2) := by decide +kernel
theorem dX5_byHours_10 : decode cX5_byHours 10 = .ok (.if_icmp .ge 55, 3) := by decide +kernel
theorem dX5_byHours_13 : decode cX5_byHours 13 = .ok (.iconst 0, 1) := by decide +kernel
theorem dX5_byHours_14 : decode cX5_byHours 14 = .ok (.istore_n 3, 1) := by decide +kernel
theorem dX5_byHours_15 : decode cX5_byHours 15 = .ok (.iload_n 3, 1) := by decide +kernel
theorem dX5_byHours_16 : decode cX5_byHours 16 = .ok (.aload_n 1, 1) := by decide +kernel
theorem dX5_byHours_17 : decode cX5_byHours 17 = .ok (.getfield 52, 3) := by decide +kernel
theorem dX5_byHours_20 : decode cX5_byHours 20 = .ok (.if_icmp .ge 27, 3) := by decide +kernel
theorem dX5_byHours_23 : decode cX5_byHours 23 = .ok (.aload_n 1, 1) := by decide +kernel
theorem dX5_byHours_24 : decode cX5_byHours 24 = .ok (.getfield 58, 3) := by decide +kernel
theorem dX5_byHours_27 : decode cX5_byHours 27 = .ok (.iload_n 3, 1) := by decide +kernel
theorem dX5_byHours_28 : decode cX5_byHours 28 = .ok (.invokestatic 42, 3) := by decide +kernel
theorem dX5_byHours_31 : decode cX5_byHours 31 = .ok (.iload_n 2, 1) := by decide +kernel
theorem dX5_byHours_32 : decode cX5_byHours 32 = .ok (.if_icmp .ne 9, 3) := by decide +kernel
theorem dX5_byHours_35 : decode cX5_byHours 35 = .ok (.aload_n 0, 1) := by decide +kernel
theorem dX5_byHours_36 : decode cX5_byHours 36 = .ok (.aload_n 1, 1) := by decide +kernel
theorem dX5_byHours_37 : decode cX5_byHours 37 = .ok (.iload_n 3, 1) := by decide +kernel
theorem dX5_byHours_38 : decode cX5_byHours 38 = .ok (.invokevirtual 61, 3) := by decide +kernel
theorem dX5_byHours_41 : decode cX5_byHours 41 = .ok (.iinc 3 1, 3) := by decide +kernel
theorem dX5_byHours_44 : decode cX5_byHours 44 = .ok (.goto (-29), 3) := by decide +kernel
theorem dX5_byHours_47 : decode cX5_byHours 47 = .ok (.aload_n 0, 1) := by decide +kernel
theorem dX5_byHours_48 : decode cX5_byHours 48 = .ok (.getfield 33, 3) := by decide +kernel
theorem dX5_byHours_51 : decode cX5_byHours 51 = .ok (.iload_n 2, 1) := by decide +kernel
theorem dX5_byHours_52 : decode cX5_byHours 52 = .ok (.aload_n 0, 1) := by decide +kernel
theorem dX5_byHours_53 : decode cX5_byHours 53 = .ok (.invokevirtual 65, 3) := by decide +kernel
theorem dX5_byHours_56 : decode cX5_byHours 56 = .ok (.invokestatic 69, 3) := by decide +kernel
theorem dX5_byHours_59 : decode cX5_byHours 59 = .ok (.iinc 2 1, 3) := by decide +kernel
theorem dX5_byHours_62 : decode cX5_byHours 62 = .ok (.goto (-55), 3) := by decide +kernel
theorem dX5_byHours_65 : decode cX5_byHours 65 = .ok (.aload_n 0, 1) := by decide +kernel
theorem dX5_byHours_66 : decode cX5_byHours 66 = .ok (.getfield 73, 3) := by decide +kernel
theorem dX5_byHours_69 : decode cX5_byHours 69 = .ok (.ireturn, 1) := by decide +kernel
theorem dX5_inOrder_0 : decode cX5_inOrder 0 = .ok (.aload_n 0, 1) := by decide +kernel
theorem dX5_inOrder_1 : decode cX5_inOrder 1 = .ok (.aload_n 1, 1) := by decide +kernel
theorem dX5_inOrder_2 : decode cX5_inOrder 2 = .ok (.invokevirtual 48, 3) := by decide +kernel
theorem dX5_inOrder_5 : decode cX5_inOrder 5 = .ok (.iconst 0, 1) := by decide +kernel
theorem dX5_inOrder_6 : decode cX5_inOrder 6 = .ok (.istore_n 3, 1) := by decide +kernel
theorem dX5_inOrder_7 : decode cX5_inOrder 7 = .ok (.iload_n 3, 1) := by decide +kernel
theorem dX5_inOrder_8 : decode cX5_inOrder 8 = .ok (.aload_n 1, 1) := by decide +kernel
theorem dX5_inOrder_9 : decode cX5_inOrder 9 = .ok (.getfield 52, 3) := by decide +kernel
theorem dX5_inOrder_12 : decode cX5_inOrder 12 = .ok (.if_icmp .ge 19, 3) := by decide +kernel
theorem dX5_inOrder_15 : decode cX5_inOrder 15 = .ok (.aload_n 0, 1) := by decide +kernel
theorem dX5_inOrder_16 : decode cX5_inOrder 16 = .ok (.aload_n 1, 1) := by decide +kernel
theorem dX5_inOrder_17 : decode cX5_inOrder 17 = .ok (.aload_n 2, 1) := by decide +kernel
theorem dX5_inOrder_18 : decode cX5_inOrder 18 = .ok (.iload_n 3, 1) := by decide +kernel
theorem dX5_inOrder_19 : decode cX5_inOrder 19 = .ok (.invokestatic 42, 3) := by decide +kernel
theorem dX5_inOrder_22 : decode cX5_inOrder 22 = .ok (.invokevirtual 61, 3) := by decide +kernel
theorem dX5_inOrder_25 : decode cX5_inOrder 25 = .ok (.iinc 3 1, 3) := by decide +kernel
theorem dX5_inOrder_28 : decode cX5_inOrder 28 = .ok (.goto (-21), 3) := by decide +kernel
theorem dX5_inOrder_31 : decode cX5_inOrder 31 = .ok (.aload_n 0, 1) := by decide +kernel
theorem dX5_inOrder_32 : decode cX5_inOrder 32 = .ok (.getfield 73, 3) := by decide +kernel
theorem dX5_inOrder_35 : decode cX5_inOrder 35 = .ok (.ireturn, 1) := by decide +kernel
theorem dX5_begin_0 : decode cX5_begin 0 = .ok (.aload_n 0, 1) := by decide +kernel
theorem dX5_begin_1 : decode cX5_begin 1 = .ok (.iconst 0, 1) := by decide +kernel
theorem dX5_begin_2 : decode cX5_begin 2 = .ok (.putfield 76, 3) := by decide +kernel
theorem dX5_begin_5 : decode cX5_begin 5 = .ok (.aload_n 0, 1) := by decide +kernel
theorem dX5_begin_6 : decode cX5_begin 6 = .ok (.aload_n 1, 1) := by decide +kernel
theorem dX5_begin_7 : decode cX5_begin 7 = .ok (.invokevirtual 79, 3) := by decide +kernel
theorem dX5_begin_10 : decode cX5_begin 10 = .ok (.aload_n 1, 1) := by decide +kernel
theorem dX5_begin_11 : decode cX5_begin 11 = .ok (.invokevirtual 82, 3) := by decide +kernel
theorem dX5_begin_14 : decode cX5_begin 14 = .ok (.invokevirtual 85, 3) := by decide +kernel
theorem dX5_begin_17 : decode cX5_begin 17 = .ok (.aload_n 1, 1) := by decide +kernel
theorem dX5_begin_18 : decode cX5_begin 18 = .ok (.getfield 89, 3) := by decide +kernel
theorem dX5_begin_21 : decode cX5_begin 21 = .ok (.iconst (-1), 1) := by decide +kernel
theorem dX5_begin_22 : decode cX5_begin 22 = .ok (.if_icmp .eq 15, 3) := by decide +kernel
theorem dX5_begin_25 : decode cX5_begin 25 = .ok (.aload_n 0, 1) := by decide +kernel
theorem dX5_begin_26 : decode cX5_begin 26 = .ok (.aload_n 1, 1) := by decide +kernel
theorem dX5_begin_27 : decode cX5_begin 27 = .ok (.getfield 89, 3) := by decide +kernel
theorem dX5_begin_30 : decode cX5_begin 30 = .ok (.aload_n 1, 1) := by decide +kernel
theorem dX5_begin_31 : decode cX5_begin 31 = .ok (.invokevirtual 82, 3) := by decide +kernel
theorem dX5_begin_34 : decode cX5_begin 34 = .ok (.invokevirtual 85, 3) := by decide +kernel
theorem dX5_begin_37 : decode cX5_begin 37 = .ok (.aload_n 0, 1) := by decide +kernel
theorem dX5_begin_38 : decode cX5_begin 38 = .ok (.iconst 0, 1) := by decide +kernel
theorem dX5_begin_39 : decode cX5_begin 39 = .ok (.putfield 92, 3) := by decide +kernel
theorem dX5_begin_42 : decode cX5_begin 42 = .ok (.aload_n 0, 1) := by decide +kernel
theorem dX5_begin_43 : decode cX5_begin 43 = .ok (.iconst 0, 1) := by decide +kernel
theorem dX5_begin_44 : decode cX5_begin 44 = .ok (.putfield 73, 3) := by decide +kernel
theorem dX5_begin_47 : decode cX5_begin 47 = .ok (.aload_n 0, 1) := by decide +kernel
theorem dX5_begin_48 : decode cX5_begin 48 = .ok (.iconst 0, 1) := by decide +kernel
theorem dX5_begin_49 : decode cX5_begin 49 = .ok (.putfield 95, 3) := by decide +kernel
theorem dX5_begin_52 : decode cX5_begin 52 = .ok (.aload_n 0, 1) := by decide +kernel
theorem dX5_begin_53 : decode cX5_begin 53 = .ok (.iconst 0, 1) := by decide +kernel
theorem dX5_begin_54 : decode cX5_begin 54 = .ok (.putfield 98, 3) := by decide +kernel
theorem dX5_begin_57 : decode cX5_begin 57 = .ok (.aload_n 0, 1) := by decide +kernel
theorem dX5_begin_58 : decode cX5_begin 58 = .ok (.iconst 0, 1) := by decide +kernel
theorem dX5_begin_59 : decode cX5_begin 59 = .ok (.putfield 101, 3) := by decide +kernel
theorem dX5_begin_62 : decode cX5_begin 62 = .ok (.aload_n 0, 1) := by decide +kernel
theorem dX5_begin_63 : decode cX5_begin 63 = .ok (.bipush (-9), 2) := by decide +kernel
theorem dX5_begin_65 : decode cX5_begin 65 = .ok (.putfield 104, 3) := by decide +kernel
theorem dX5_begin_68 : decode cX5_begin 68 = .ok (.return_, 1) := by decide +kernel
theorem dX5_addLamp_0 : decode cX5_addLamp 0 = .ok (.aload_n 0, 1) := by decide +kernel
theorem dX5_addLamp_1 : decode cX5_addLamp 1 = .ok (.getfield 36, 3) := by decide +kernel
theorem dX5_addLamp_4 : decode cX5_addLamp 4 = .ok (.aload_n 0, 1) := by decide +kernel
theorem dX5_addLamp_5 : decode cX5_addLamp 5 = .ok (.getfield 76, 3) := by decide +kernel
theorem dX5_addLamp_8 : decode cX5_addLamp 8 = .ok (.iload_n 1, 1) := by decide +kernel
theorem dX5_addLamp_9 : decode cX5_addLamp 9 = .ok (.invokestatic 69, 3) := by decide +kernel
theorem dX5_addLamp_12 : decode cX5_addLamp 12 = .ok (.aload_n 0, 1) := by decide +kernel
theorem dX5_addLamp_13 : decode cX5_addLamp 13 = .ok (.getfield 39, 3) := by decide +kernel
theorem dX5_addLamp_16 : decode cX5_addLamp 16 = .ok (.aload_n 0, 1) := by decide +kernel
theorem dX5_addLamp_17 : decode cX5_addLamp 17 = .ok (.getfield 76, 3) := by decide +kernel
theorem dX5_addLamp_20 : decode cX5_addLamp 20 = .ok (.iload_n 2, 1) := by decide +kernel
theorem dX5_addLamp_21 : decode cX5_addLamp 21 = .ok (.invokestatic 69, 3) := by decide +kernel
theorem dX5_addLamp_24 : decode cX5_addLamp 24 = .ok (.aload_n 0, 1) := by decide +kernel
theorem dX5_addLamp_25 : decode cX5_addLamp 25 = .ok (.dup, 1) := by decide +kernel
theorem dX5_addLamp_26 : decode cX5_addLamp 26 = .ok (.getfield 76, 3) := by decide +kernel
theorem dX5_addLamp_29 : decode cX5_addLamp 29 = .ok (.iconst 1, 1) := by decide +kernel
theorem dX5_addLamp_30 : decode cX5_addLamp 30 = .ok (.iadd, 1) := by decide +kernel
theorem dX5_addLamp_31 : decode cX5_addLamp 31 = .ok (.putfield 76, 3) := by decide +kernel
theorem dX5_addLamp_34 : decode cX5_addLamp 34 = .ok (.return_, 1) := by decide +kernel
theorem dX5_go_0 : decode cX5_go 0 = .ok (.aload_n 0, 1) := by decide +kernel
theorem dX5_go_1 : decode cX5_go 1 = .ok (.getfield 21, 3) := by decide +kernel
theorem dX5_go_4 : decode cX5_go 4 = .ok (.iload_n 2, 1) := by decide +kernel
theorem dX5_go_5 : decode cX5_go 5 = .ok (.aload_n 0, 1) := by decide +kernel
theorem dX5_go_6 : decode cX5_go 6 = .ok (.invokevirtual 65, 3) := by decide +kernel
theorem dX5_go_9 : decode cX5_go 9 = .ok (.invokestatic 69, 3) := by decide +kernel
theorem dX5_go_12 : decode cX5_go 12 = .ok (.aload_n 0, 1) := by decide +kernel
theorem dX5_go_13 : decode cX5_go 13 = .ok (.aload_n 1, 1) := by decide +kernel
theorem dX5_go_14 : decode cX5_go 14 = .ok (.iload_n 2, 1) := by decide +kernel
theorem dX5_go_15 : decode cX5_go 15 = .ok (.invokevirtual 107, 3) := by decide +kernel
theorem dX5_go_18 : decode cX5_go 18 = .ok (.istore_n 3, 1) := by decide +kernel
theorem dX5_go_19 : decode cX5_go 19 = .ok (.iload_n 3, 1) := by decide +kernel
theorem dX5_go_20 : decode cX5_go 20 = .ok (.iconst (-1), 1) := by decide +kernel
theorem dX5_go_21 : decode cX5_go 21 = .ok (.if_icmp .ne 12, 3) := by decide +kernel
theorem dX5_go_24 : decode cX5_go 24 = .ok (.aload_n 0, 1) := by decide +kernel
theorem dX5_go_25 : decode cX5_go 25 = .ok (.aload_n 1, 1) := by decide +kernel
theorem dX5_go_26 : decode cX5_go 26 = .ok (.iload_n 2, 1) := by decide +kernel
theorem dX5_go_27 : decode cX5_go 27 = .ok (.invokevirtual 111, 3) := by decide +kernel
theorem dX5_go_30 : decode cX5_go 30 = .ok (.goto 10, 3) := by decide +kernel
theorem dX5_go_33 : decode cX5_go 33 = .ok (.aload_n 0, 1) := by decide +kernel
theorem dX5_go_34 : decode cX5_go 34 = .ok (.aload_n 1, 1) := by decide +kernel
theorem dX5_go_35 : decode cX5_go 35 = .ok (.iload_n 2, 1) := by decide +kernel
theorem dX5_go_36 : decode cX5_go 36 = .ok (.iload_n 3, 1) := by decide +kernel
theorem dX5_go_37 : decode cX5_go 37 = .ok (.invokevirtual 114, 3) := by decide +kernel
theorem dX5_go_40 : decode cX5_go 40 = .ok (.aload_n 0, 1) := by decide +kernel
theorem dX5_go_41 : decode cX5_go 41 = .ok (.getfield 9, 3) := by decide +kernel
theorem dX5_go_44 : decode cX5_go 44 = .ok (.iload_n 2, 1) := by decide +kernel
theorem dX5_go_45 : decode cX5_go 45 = .ok (.invokestatic 42, 3) := by decide +kernel
theorem dX5_go_48 : decode cX5_go 48 = .ok (.aload_n 1, 1) := by decide +kernel
theorem dX5_go_49 : decode cX5_go 49 = .ok (.iload_n 2, 1) := by decide +kernel
theorem dX5_go_50 : decode cX5_go 50 = .ok (.invokevirtual 118, 3) := by decide +kernel
theorem dX5_go_53 : decode cX5_go 53 = .ok (.imul, 1) := by decide +kernel
theorem dX5_go_54 : decode cX5_go 54 = .ok (.istore 4, 2) := by decide +kernel
theorem dX5_go_56 : decode cX5_go 56 = .ok (.aload_n 0, 1) := by decide +kernel
theorem dX5_go_57 : decode cX5_go 57 = .ok (.getfield 18, 3) := by decide +kernel
theorem dX5_go_60 : decode cX5_go 60 = .ok (.iload_n 2, 1) := by decide +kernel
theorem dX5_go_61 : decode cX5_go 61 = .ok (.iload 4, 2) := by decide +kernel
theorem dX5_go_63 : decode cX5_go 63 = .ok (.invokestatic 69, 3) := by decide +kernel
theorem dX5_go_66 : decode cX5_go 66 = .ok (.aload_n 0, 1) := by decide +kernel
theorem dX5_go_67 : decode cX5_go 67 = .ok (.dup, 1) := by decide +kernel
theorem dX5_go_68 : decode cX5_go 68 = .ok (.getfield 73, 3) := by decide +kernel
theorem dX5_go_71 : decode cX5_go 71 = .ok (.iload 4, 2) := by decide +kernel
theorem dX5_go_73 : decode cX5_go 73 = .ok (.iadd, 1) := by decide +kernel
theorem dX5_go_74 : decode cX5_go 74 = .ok (.putfield 73, 3) := by decide +kernel
theorem dX5_go_77 : decode cX5_go 77 = .ok (.aload_n 0, 1) := by decide +kernel
theorem dX5_go_78 : decode cX5_go 78 = .ok (.dup, 1) := by decide +kernel
theorem dX5_go_79 : decode cX5_go 79 = .ok (.getfield 95, 3) := by decide +kernel
theorem dX5_go_82 : decode cX5_go 82 = .ok (.aload_n 0, 1) := by decide +kernel
theorem dX5_go_83 : decode cX5_go 83 = .ok (.getfield 9, 3) := by decide +kernel
theorem dX5_go_86 : decode cX5_go 86 = .ok (.iload_n 2, 1) := by decide +kernel
theorem dX5_go_87 : decode cX5_go 87 = .ok (.invokestatic 42, 3) := by decide +kernel
theorem dX5_go_90 : decode cX5_go 90 = .ok (.iadd, 1) := by decide +kernel
theorem dX5_go_91 : decode cX5_go 91 = .ok (.putfield 95, 3) := by decide +kernel
theorem dX5_go_94 : decode cX5_go 94 = .ok (.aload_n 0, 1) := by decide +kernel
theorem dX5_go_95 : decode cX5_go 95 = .ok (.dup, 1) := by decide +kernel
theorem dX5_go_96 : decode cX5_go 96 = .ok (.getfield 98, 3) := by decide +kernel
theorem dX5_go_99 : decode cX5_go 99 = .ok (.aload_n 0, 1) := by decide +kernel
theorem dX5_go_100 : decode cX5_go 100 = .ok (.getfield 15, 3) := by decide +kernel
theorem dX5_go_103 : decode cX5_go 103 = .ok (.iload_n 2, 1) := by decide +kernel
theorem dX5_go_104 : decode cX5_go 104 = .ok (.invokestatic 42, 3) := by decide +kernel
theorem dX5_go_107 : decode cX5_go 107 = .ok (.iadd, 1) := by decide +kernel
theorem dX5_go_108 : decode cX5_go 108 = .ok (.putfield 98, 3) := by decide +kernel
theorem dX5_go_111 : decode cX5_go 111 = .ok (.aload_n 0, 1) := by decide +kernel
theorem dX5_go_112 : decode cX5_go 112 = .ok (.getfield 27, 3) := by decide +kernel
theorem dX5_go_115 : decode cX5_go 115 = .ok (.aload_n 0, 1) := by decide +kernel
theorem dX5_go_116 : decode cX5_go 116 = .ok (.getfield 92, 3) := by decide +kernel
theorem dX5_go_119 : decode cX5_go 119 = .ok (.iload_n 2, 1) := by decide +kernel
theorem dX5_go_120 : decode cX5_go 120 = .ok (.invokestatic 69, 3) := by decide +kernel
theorem dX5_go_123 : decode cX5_go 123 = .ok (.aload_n 0, 1) := by decide +kernel
theorem dX5_go_124 : decode cX5_go 124 = .ok (.getfield 30, 3) := by decide +kernel
theorem dX5_go_127 : decode cX5_go 127 = .ok (.aload_n 0, 1) := by decide +kernel
theorem dX5_go_128 : decode cX5_go 128 = .ok (.getfield 92, 3) := by decide +kernel
theorem dX5_go_131 : decode cX5_go 131 = .ok (.aload_n 0, 1) := by decide +kernel
theorem dX5_go_132 : decode cX5_go 132 = .ok (.invokevirtual 65, 3) := by decide +kernel
theorem dX5_go_135 : decode cX5_go 135 = .ok (.invokestatic 69, 3) := by decide +kernel
theorem dX5_go_138 : decode cX5_go 138 = .ok (.aload_n 0, 1) := by decide +kernel
theorem dX5_go_139 : decode cX5_go 139 = .ok (.dup, 1) := by decide +kernel
theorem dX5_go_140 : decode cX5_go 140 = .ok (.getfield 92, 3) := by decide +kernel
theorem dX5_go_143 : decode cX5_go 143 = .ok (.iconst 1, 1) := by decide +kernel
theorem dX5_go_144 : decode cX5_go 144 = .ok (.iadd, 1) := by decide +kernel
theorem dX5_go_145 : decode cX5_go 145 = .ok (.putfield 92, 3) := by decide +kernel
theorem dX5_go_148 : decode cX5_go 148 = .ok (.return_, 1) := by decide +kernel
theorem dX5_lampThatHeHas_0 : decode cX5_lampThatHeHas 0 = .ok (.aload_n 1, 1) := by decide +kernel
theorem dX5_lampThatHeHas_1 : decode cX5_lampThatHeHas 1 = .ok (.getfield 122, 3) := by decide +kernel
theorem dX5_lampThatHeHas_4 : decode cX5_lampThatHeHas 4 = .ok (.iload_n 2, 1) := by decide +kernel
theorem dX5_lampThatHeHas_5 : decode cX5_lampThatHeHas 5 = .ok (.invokestatic 42, 3) := by decide +kernel
theorem dX5_lampThatHeHas_8 : decode cX5_lampThatHeHas 8 = .ok (.istore_n 3, 1) := by decide +kernel
theorem dX5_lampThatHeHas_9 : decode cX5_lampThatHeHas 9 = .ok (.iconst (-1), 1) := by decide +kernel
theorem dX5_lampThatHeHas_10 : decode cX5_lampThatHeHas 10 = .ok (.istore 4, 2) := by decide +kernel
theorem dX5_lampThatHeHas_12 : decode cX5_lampThatHeHas 12 = .ok (.aload_n 1, 1) := by decide +kernel
theorem dX5_lampThatHeHas_13 : decode cX5_lampThatHeHas 13 = .ok (.iload_n 2, 1) := by decide +kernel
theorem dX5_lampThatHeHas_14 : decode cX5_lampThatHeHas 14 = .ok (.invokevirtual 125, 3) := by decide +kernel
theorem dX5_lampThatHeHas_17 : decode cX5_lampThatHeHas 17 = .ok (.iconst 1, 1) := by decide +kernel
theorem dX5_lampThatHeHas_18 : decode cX5_lampThatHeHas 18 = .ok (.iadd, 1) := by decide +kernel
theorem dX5_lampThatHeHas_19 : decode cX5_lampThatHeHas 19 = .ok (.istore 5, 2) := by decide +kernel
theorem dX5_lampThatHeHas_21 : decode cX5_lampThatHeHas 21 = .ok (.iconst 0, 1) := by decide +kernel
theorem dX5_lampThatHeHas_22 : decode cX5_lampThatHeHas 22 = .ok (.istore 6, 2) := by decide +kernel
theorem dX5_lampThatHeHas_24 : decode cX5_lampThatHeHas 24 = .ok (.iload 6, 2) := by decide +kernel
theorem dX5_lampThatHeHas_26 : decode cX5_lampThatHeHas 26 = .ok (.aload_n 0, 1) := by decide +kernel
theorem dX5_lampThatHeHas_27 : decode cX5_lampThatHeHas 27 = .ok (.getfield 76, 3) := by decide +kernel
theorem dX5_lampThatHeHas_30 : decode cX5_lampThatHeHas 30 = .ok (.if_icmp .ge 52, 3) := by decide +kernel
theorem dX5_lampThatHeHas_33 : decode cX5_lampThatHeHas 33 = .ok (.aload_n 0, 1) := by decide +kernel
theorem dX5_lampThatHeHas_34 : decode cX5_lampThatHeHas 34 = .ok (.getfield 36, 3) := by decide +kernel
theorem dX5_lampThatHeHas_37 : decode cX5_lampThatHeHas 37 = .ok (.iload 6, 2) := by decide +kernel
theorem dX5_lampThatHeHas_39 : decode cX5_lampThatHeHas 39 = .ok (.invokestatic 42, 3) := by decide +kernel
theorem dX5_lampThatHeHas_42 : decode cX5_lampThatHeHas 42 = .ok (.iload_n 3, 1) := by decide +kernel
theorem dX5_lampThatHeHas_43 : decode cX5_lampThatHeHas 43 = .ok (.isub, 1) := by decide +kernel
theorem dX5_lampThatHeHas_44 : decode cX5_lampThatHeHas 44 = .ok (.invokestatic 128, 3) := by decide +kernel
theorem dX5_lampThatHeHas_47 : decode cX5_lampThatHeHas 47 = .ok (.istore 7, 2) := by decide +kernel
theorem dX5_lampThatHeHas_49 : decode cX5_lampThatHeHas 49 = .ok (.aload_n 0, 1) := by decide +kernel
theorem dX5_lampThatHeHas_50 : decode cX5_lampThatHeHas 50 = .ok (.getfield 39, 3) := by decide +kernel
theorem dX5_lampThatHeHas_53 : decode cX5_lampThatHeHas 53 = .ok (.iload 6, 2) := by decide +kernel
theorem dX5_lampThatHeHas_55 : decode cX5_lampThatHeHas 55 = .ok (.invokestatic 42, 3) := by decide +kernel
theorem dX5_lampThatHeHas_58 : decode cX5_lampThatHeHas 58 = .ok (.ifCond .le 18, 3) := by decide +kernel
theorem dX5_lampThatHeHas_61 : decode cX5_lampThatHeHas 61 = .ok (.iload 7, 2) := by decide +kernel
theorem dX5_lampThatHeHas_63 : decode cX5_lampThatHeHas 63 = .ok (.iload 5, 2) := by decide +kernel
theorem dX5_lampThatHeHas_65 : decode cX5_lampThatHeHas 65 = .ok (.if_icmp .ge 11, 3) := by decide +kernel
theorem dX5_lampThatHeHas_68 : decode cX5_lampThatHeHas 68 = .ok (.iload 6, 2) := by decide +kernel
theorem dX5_lampThatHeHas_70 : decode cX5_lampThatHeHas 70 = .ok (.istore 4, 2) := by decide +kernel
theorem dX5_lampThatHeHas_72 : decode cX5_lampThatHeHas 72 = .ok (.iload 7, 2) := by decide +kernel
theorem dX5_lampThatHeHas_74 : decode cX5_lampThatHeHas 74 = .ok (.istore 5, 2) := by decide +kernel
theorem dX5_lampThatHeHas_76 : decode cX5_lampThatHeHas 76 = .ok (.iinc 6 1, 3) := by decide +kernel
theorem dX5_lampThatHeHas_79 : decode cX5_lampThatHeHas 79 = .ok (.goto (-55), 3) := by decide +kernel
theorem dX5_lampThatHeHas_82 : decode cX5_lampThatHeHas 82 = .ok (.iload 4, 2) := by decide +kernel
theorem dX5_lampThatHeHas_84 : decode cX5_lampThatHeHas 84 = .ok (.ireturn, 1) := by decide +kernel
theorem dX5_goInTheDark_0 : decode cX5_goInTheDark 0 = .ok (.aload_n 0, 1) := by decide +kernel
theorem dX5_goInTheDark_1 : decode cX5_goInTheDark 1 = .ok (.getfield 9, 3) := by decide +kernel
theorem dX5_goInTheDark_4 : decode cX5_goInTheDark 4 = .ok (.iload_n 2, 1) := by decide +kernel
theorem dX5_goInTheDark_5 : decode cX5_goInTheDark 5 = .ok (.aload_n 1, 1) := by decide +kernel
theorem dX5_goInTheDark_6 : decode cX5_goInTheDark 6 = .ok (.iload_n 2, 1) := by decide +kernel
theorem dX5_goInTheDark_7 : decode cX5_goInTheDark 7 = .ok (.invokevirtual 133, 3) := by decide +kernel
theorem dX5_goInTheDark_10 : decode cX5_goInTheDark 10 = .ok (.invokestatic 69, 3) := by decide +kernel
theorem dX5_goInTheDark_13 : decode cX5_goInTheDark 13 = .ok (.aload_n 0, 1) := by decide +kernel
theorem dX5_goInTheDark_14 : decode cX5_goInTheDark 14 = .ok (.getfield 15, 3) := by decide +kernel
theorem dX5_goInTheDark_17 : decode cX5_goInTheDark 17 = .ok (.iload_n 2, 1) := by decide +kernel
theorem dX5_goInTheDark_18 : decode cX5_goInTheDark 18 = .ok (.iconst 0, 1) := by decide +kernel
theorem dX5_goInTheDark_19 : decode cX5_goInTheDark 19 = .ok (.invokestatic 69, 3) := by decide +kernel
theorem dX5_goInTheDark_22 : decode cX5_goInTheDark 22 = .ok (.aload_n 0, 1) := by decide +kernel
theorem dX5_goInTheDark_23 : decode cX5_goInTheDark 23 = .ok (.getfield 24, 3) := by decide +kernel
theorem dX5_goInTheDark_26 : decode cX5_goInTheDark 26 = .ok (.iload_n 2, 1) := by decide +kernel
theorem dX5_goInTheDark_27 : decode cX5_goInTheDark 27 = .ok (.iconst 0, 1) := by decide +kernel
theorem dX5_goInTheDark_28 : decode cX5_goInTheDark 28 = .ok (.invokestatic 69, 3) := by decide +kernel
theorem dX5_goInTheDark_31 : decode cX5_goInTheDark 31 = .ok (.return_, 1) := by decide +kernel
theorem dX5_goWithLamp_0 : decode cX5_goWithLamp 0 = .ok (.aload_n 0, 1) := by decide +kernel
theorem dX5_goWithLamp_1 : decode cX5_goWithLamp 1 = .ok (.getfield 36, 3) := by decide +kernel
theorem dX5_goWithLamp_4 : decode cX5_goWithLamp 4 = .ok (.iload_n 3, 1) := by decide +kernel
theorem dX5_goWithLamp_5 : decode cX5_goWithLamp 5 = .ok (.invokestatic 42, 3) := by decide +kernel
theorem dX5_goWithLamp_8 : decode cX5_goWithLamp 8 = .ok (.istore 4, 2) := by decide +kernel
theorem dX5_goWithLamp_10 : decode cX5_goWithLamp 10 = .ok (.aload_n 0, 1) := by decide +kernel
theorem dX5_goWithLamp_11 : decode cX5_goWithLamp 11 = .ok (.getfield 39, 3) := by decide +kernel
theorem dX5_goWithLamp_14 : decode cX5_goWithLamp 14 = .ok (.iload_n 3, 1) := by decide +kernel
theorem dX5_goWithLamp_15 : decode cX5_goWithLamp 15 = .ok (.invokestatic 42, 3) := by decide +kernel
theorem dX5_goWithLamp_18 : decode cX5_goWithLamp 18 = .ok (.istore 5, 2) := by decide +kernel
theorem dX5_goWithLamp_20 : decode cX5_goWithLamp 20 = .ok (.aload_n 1, 1) := by decide +kernel
theorem dX5_goWithLamp_21 : decode cX5_goWithLamp 21 = .ok (.iload_n 2, 1) := by decide +kernel
theorem dX5_goWithLamp_22 : decode cX5_goWithLamp 22 = .ok (.iload 4, 2) := by decide +kernel
theorem dX5_goWithLamp_24 : decode cX5_goWithLamp 24 = .ok (.invokevirtual 136, 3) := by decide +kernel
theorem dX5_goWithLamp_27 : decode cX5_goWithLamp 27 = .ok (.istore 6, 2) := by decide +kernel
theorem dX5_goWithLamp_29 : decode cX5_goWithLamp 29 = .ok (.aload_n 1, 1) := by decide +kernel
theorem dX5_goWithLamp_30 : decode cX5_goWithLamp 30 = .ok (.iload_n 2, 1) := by decide +kernel
theorem dX5_goWithLamp_31 : decode cX5_goWithLamp 31 = .ok (.iload 6, 2) := by decide +kernel
theorem dX5_goWithLamp_33 : decode cX5_goWithLamp 33 = .ok (.invokevirtual 140, 3) := by decide +kernel
theorem dX5_goWithLamp_36 : decode cX5_goWithLamp 36 = .ok (.istore 7, 2) := by decide +kernel
theorem dX5_goWithLamp_38 : decode cX5_goWithLamp 38 = .ok (.iload 6, 2) := by decide +kernel
theorem dX5_goWithLamp_40 : decode cX5_goWithLamp 40 = .ok (.iload 4, 2) := by decide +kernel
theorem dX5_goWithLamp_42 : decode cX5_goWithLamp 42 = .ok (.isub, 1) := by decide +kernel
theorem dX5_goWithLamp_43 : decode cX5_goWithLamp 43 = .ok (.invokestatic 128, 3) := by decide +kernel
theorem dX5_goWithLamp_46 : decode cX5_goWithLamp 46 = .ok (.iload 7, 2) := by decide +kernel
theorem dX5_goWithLamp_48 : decode cX5_goWithLamp 48 = .ok (.iload 6, 2) := by decide +kernel
theorem dX5_goWithLamp_50 : decode cX5_goWithLamp 50 = .ok (.isub, 1) := by decide +kernel
theorem dX5_goWithLamp_51 : decode cX5_goWithLamp 51 = .ok (.invokestatic 128, 3) := by decide +kernel
theorem dX5_goWithLamp_54 : decode cX5_goWithLamp 54 = .ok (.iadd, 1) := by decide +kernel
theorem dX5_goWithLamp_55 : decode cX5_goWithLamp 55 = .ok (.istore 8, 2) := by decide +kernel
theorem dX5_goWithLamp_57 : decode cX5_goWithLamp 57 = .ok (.iload 4, 2) := by decide +kernel
theorem dX5_goWithLamp_59 : decode cX5_goWithLamp 59 = .ok (.aload_n 1, 1) := by decide +kernel
theorem dX5_goWithLamp_60 : decode cX5_goWithLamp 60 = .ok (.getfield 122, 3) := by decide +kernel
theorem dX5_goWithLamp_63 : decode cX5_goWithLamp 63 = .ok (.iload_n 2, 1) := by decide +kernel
theorem dX5_goWithLamp_64 : decode cX5_goWithLamp 64 = .ok (.invokestatic 42, 3) := by decide +kernel
theorem dX5_goWithLamp_67 : decode cX5_goWithLamp 67 = .ok (.isub, 1) := by decide +kernel
theorem dX5_goWithLamp_68 : decode cX5_goWithLamp 68 = .ok (.invokestatic 128, 3) := by decide +kernel
theorem dX5_goWithLamp_71 : decode cX5_goWithLamp 71 = .ok (.aload_n 1, 1) := by decide +kernel
theorem dX5_goWithLamp_72 : decode cX5_goWithLamp 72 = .ok (.getfield 143, 3) := by decide +kernel
theorem dX5_goWithLamp_75 : decode cX5_goWithLamp 75 = .ok (.iload_n 2, 1) := by decide +kernel
theorem dX5_goWithLamp_76 : decode cX5_goWithLamp 76 = .ok (.invokestatic 42, 3) := by decide +kernel
theorem dX5_goWithLamp_79 : decode cX5_goWithLamp 79 = .ok (.iload 6, 2) := by decide +kernel
theorem dX5_goWithLamp_81 : decode cX5_goWithLamp 81 = .ok (.isub, 1) := by decide +kernel
theorem dX5_goWithLamp_82 : decode cX5_goWithLamp 82 = .ok (.invokestatic 128, 3) := by decide +kernel
theorem dX5_goWithLamp_85 : decode cX5_goWithLamp 85 = .ok (.iadd, 1) := by decide +kernel
theorem dX5_goWithLamp_86 : decode cX5_goWithLamp 86 = .ok (.istore 9, 2) := by decide +kernel
theorem dX5_goWithLamp_88 : decode cX5_goWithLamp 88 = .ok (.iload 8, 2) := by decide +kernel
theorem dX5_goWithLamp_90 : decode cX5_goWithLamp 90 = .ok (.iload 5, 2) := by decide +kernel
theorem dX5_goWithLamp_92 : decode cX5_goWithLamp 92 = .ok (.invokestatic 146, 3) := by decide +kernel
theorem dX5_goWithLamp_95 : decode cX5_goWithLamp 95 = .ok (.istore 10, 2) := by decide +kernel
theorem dX5_goWithLamp_97 : decode cX5_goWithLamp 97 = .ok (.aload_n 0, 1) := by decide +kernel
theorem dX5_goWithLamp_98 : decode cX5_goWithLamp 98 = .ok (.getfield 9, 3) := by decide +kernel
theorem dX5_goWithLamp_101 : decode cX5_goWithLamp 101 = .ok (.iload_n 2, 1) := by decide +kernel
theorem dX5_goWithLamp_102 : decode cX5_goWithLamp 102 = .ok (.iload 9, 2) := by decide +kernel
theorem dX5_goWithLamp_104 : decode cX5_goWithLamp 104 = .ok (.iload 8, 2) := by decide +kernel
theorem dX5_goWithLamp_106 : decode cX5_goWithLamp 106 = .ok (.iadd, 1) := by decide +kernel
theorem dX5_goWithLamp_107 : decode cX5_goWithLamp 107 = .ok (.iload 10, 2) := by decide +kernel
theorem dX5_goWithLamp_109 : decode cX5_goWithLamp 109 = .ok (.isub, 1) := by decide +kernel
theorem dX5_goWithLamp_110 : decode cX5_goWithLamp 110 = .ok (.invokestatic 69, 3) := by decide +kernel
theorem dX5_goWithLamp_113 : decode cX5_goWithLamp 113 = .ok (.aload_n 0, 1) := by decide +kernel
theorem dX5_goWithLamp_114 : decode cX5_goWithLamp 114 = .ok (.getfield 15, 3) := by decide +kernel
theorem dX5_goWithLamp_117 : decode cX5_goWithLamp 117 = .ok (.iload_n 2, 1) := by decide +kernel
theorem dX5_goWithLamp_118 : decode cX5_goWithLamp 118 = .ok (.iload 10, 2) := by decide +kernel
theorem dX5_goWithLamp_120 : decode cX5_goWithLamp 120 = .ok (.invokestatic 69, 3) := by decide +kernel
theorem dX5_goWithLamp_123 : decode cX5_goWithLamp 123 = .ok (.aload_n 0, 1) := by decide +kernel
theorem dX5_goWithLamp_124 : decode cX5_goWithLamp 124 = .ok (.getfield 24, 3) := by decide +kernel
theorem dX5_goWithLamp_127 : decode cX5_goWithLamp 127 = .ok (.iload_n 2, 1) := by decide +kernel
theorem dX5_goWithLamp_128 : decode cX5_goWithLamp 128 = .ok (.iconst 1, 1) := by decide +kernel
theorem dX5_goWithLamp_129 : decode cX5_goWithLamp 129 = .ok (.invokestatic 69, 3) := by decide +kernel
theorem dX5_goWithLamp_132 : decode cX5_goWithLamp 132 = .ok (.aload_n 0, 1) := by decide +kernel
theorem dX5_goWithLamp_133 : decode cX5_goWithLamp 133 = .ok (.getfield 36, 3) := by decide +kernel
theorem dX5_goWithLamp_136 : decode cX5_goWithLamp 136 = .ok (.iload_n 3, 1) := by decide +kernel
theorem dX5_goWithLamp_137 : decode cX5_goWithLamp 137 = .ok (.iload 7, 2) := by decide +kernel
theorem dX5_goWithLamp_139 : decode cX5_goWithLamp 139 = .ok (.invokestatic 69, 3) := by decide +kernel
theorem dX5_goWithLamp_142 : decode cX5_goWithLamp 142 = .ok (.aload_n 0, 1) := by decide +kernel
theorem dX5_goWithLamp_143 : decode cX5_goWithLamp 143 = .ok (.getfield 39, 3) := by decide +kernel
theorem dX5_goWithLamp_146 : decode cX5_goWithLamp 146 = .ok (.iload_n 3, 1) := by decide +kernel
theorem dX5_goWithLamp_147 : decode cX5_goWithLamp 147 = .ok (.iload 5, 2) := by decide +kernel
theorem dX5_goWithLamp_149 : decode cX5_goWithLamp 149 = .ok (.iload 10, 2) := by decide +kernel
theorem dX5_goWithLamp_151 : decode cX5_goWithLamp 151 = .ok (.isub, 1) := by decide +kernel
theorem dX5_goWithLamp_152 : decode cX5_goWithLamp 152 = .ok (.invokestatic 69, 3) := by decide +kernel
theorem dX5_goWithLamp_155 : decode cX5_goWithLamp 155 = .ok (.aload_n 0, 1) := by decide +kernel
theorem dX5_goWithLamp_156 : decode cX5_goWithLamp 156 = .ok (.dup, 1) := by decide +kernel
theorem dX5_goWithLamp_157 : decode cX5_goWithLamp 157 = .ok (.getfield 101, 3) := by decide +kernel
theorem dX5_goWithLamp_160 : decode cX5_goWithLamp 160 = .ok (.iconst 1, 1) := by decide +kernel
theorem dX5_goWithLamp_161 : decode cX5_goWithLamp 161 = .ok (.iadd, 1) := by decide +kernel
theorem dX5_goWithLamp_162 : decode cX5_goWithLamp 162 = .ok (.putfield 101, 3) := by decide +kernel
theorem dX5_goWithLamp_165 : decode cX5_goWithLamp 165 = .ok (.aload_n 0, 1) := by decide +kernel
theorem dX5_goWithLamp_166 : decode cX5_goWithLamp 166 = .ok (.iload_n 2, 1) := by decide +kernel
theorem dX5_goWithLamp_167 : decode cX5_goWithLamp 167 = .ok (.putfield 104, 3) := by decide +kernel
theorem dX5_goWithLamp_170 : decode cX5_goWithLamp 170 = .ok (.return_, 1) := by decide +kernel
theorem dX6_init_0 : decode cX6_init 0 = .ok (.aload_n 0, 1) := by decide +kernel
theorem dX6_init_1 : decode cX6_init 1 = .ok (.invokespecial 1, 3) := by decide +kernel
theorem dX6_init_4 : decode cX6_init 4 = .ok (.aload_n 0, 1) := by decide +kernel
theorem dX6_init_5 : decode cX6_init 5 = .ok (.new 7, 3) := by decide +kernel
theorem dX6_init_8 : decode cX6_init 8 = .ok (.dup, 1) := by decide +kernel
theorem dX6_init_9 : decode cX6_init 9 = .ok (.invokespecial 9, 3) := by decide +kernel
theorem dX6_init_12 : decode cX6_init 12 = .ok (.putfield 10, 3) := by decide +kernel
theorem dX6_init_15 : decode cX6_init 15 = .ok (.aload_n 0, 1) := by decide +kernel
theorem dX6_init_16 : decode cX6_init 16 = .ok (.new 7, 3) := by decide +kernel
theorem dX6_init_19 : decode cX6_init 19 = .ok (.dup, 1) := by decide +kernel
theorem dX6_init_20 : decode cX6_init 20 = .ok (.invokespecial 9, 3) := by decide +kernel
theorem dX6_init_23 : decode cX6_init 23 = .ok (.putfield 16, 3) := by decide +kernel
theorem dX6_init_26 : decode cX6_init 26 = .ok (.aload_n 0, 1) := by decide +kernel
theorem dX6_init_27 : decode cX6_init 27 = .ok (.new 7, 3) := by decide +kernel
theorem dX6_init_30 : decode cX6_init 30 = .ok (.dup, 1) := by decide +kernel
theorem dX6_init_31 : decode cX6_init 31 = .ok (.invokespecial 9, 3) := by decide +kernel
theorem dX6_init_34 : decode cX6_init 34 = .ok (.putfield 19, 3) := by decide +kernel
theorem dX6_init_37 : decode cX6_init 37 = .ok (.aload_n 0, 1) := by decide +kernel
theorem dX6_init_38 : decode cX6_init 38 = .ok (.new 22, 3) := by decide +kernel
theorem dX6_init_41 : decode cX6_init 41 = .ok (.dup, 1) := by decide +kernel
theorem dX6_init_42 : decode cX6_init 42 = .ok (.invokespecial 24, 3) := by decide +kernel
theorem dX6_init_45 : decode cX6_init 45 = .ok (.putfield 25, 3) := by decide +kernel
theorem dX6_init_48 : decode cX6_init 48 = .ok (.aload_n 0, 1) := by decide +kernel
theorem dX6_init_49 : decode cX6_init 49 = .ok (.new 29, 3) := by decide +kernel
theorem dX6_init_52 : decode cX6_init 52 = .ok (.dup, 1) := by decide +kernel
theorem dX6_init_53 : decode cX6_init 53 = .ok (.invokespecial 31, 3) := by decide +kernel
theorem dX6_init_56 : decode cX6_init 56 = .ok (.putfield 32, 3) := by decide +kernel
theorem dX6_init_59 : decode cX6_init 59 = .ok (.aload_n 0, 1) := by decide +kernel
theorem dX6_init_60 : decode cX6_init 60 = .ok (.new 36, 3) := by decide +kernel
theorem dX6_init_63 : decode cX6_init 63 = .ok (.dup, 1) := by decide +kernel
theorem dX6_init_64 : decode cX6_init 64 = .ok (.invokespecial 38, 3) := by decide +kernel
theorem dX6_init_67 : decode cX6_init 67 = .ok (.putfield 39, 3) := by decide +kernel
theorem dX6_init_70 : decode cX6_init 70 = .ok (.aload_n 0, 1) := by decide +kernel
theorem dX6_init_71 : decode cX6_init 71 = .ok (.new 43, 3) := by decide +kernel
theorem dX6_init_74 : decode cX6_init 74 = .ok (.dup, 1) := by decide +kernel
theorem dX6_init_75 : decode cX6_init 75 = .ok (.invokespecial 45, 3) := by decide +kernel
theorem dX6_init_78 : decode cX6_init 78 = .ok (.putfield 46, 3) := by decide +kernel
theorem dX6_init_81 : decode cX6_init 81 = .ok (.aload_n 0, 1) := by decide +kernel
theorem dX6_init_82 : decode cX6_init 82 = .ok (.bipush 12, 2) := by decide +kernel
theorem dX6_init_84 : decode cX6_init 84 = .ok (.newarray .int, 2) := by decide +kernel
theorem dX6_init_86 : decode cX6_init 86 = .ok (.putfield 50, 3) := by decide +kernel
theorem dX6_init_89 : decode cX6_init 89 = .ok (.aload_n 0, 1) := by decide +kernel
theorem dX6_init_90 : decode cX6_init 90 = .ok (.bipush 7, 2) := by decide +kernel
theorem dX6_init_92 : decode cX6_init 92 = .ok (.newarray .int, 2) := by decide +kernel
theorem dX6_init_94 : decode cX6_init 94 = .ok (.putfield 54, 3) := by decide +kernel
theorem dX6_init_97 : decode cX6_init 97 = .ok (.aload_n 0, 1) := by decide +kernel
theorem dX6_init_98 : decode cX6_init 98 = .ok (.iconst 0, 1) := by decide +kernel
theorem dX6_init_99 : decode cX6_init 99 = .ok (.putfield 57, 3) := by decide +kernel
theorem dX6_init_102 : decode cX6_init 102 = .ok (.aload_n 0, 1) := by decide +kernel
theorem dX6_init_103 : decode cX6_init 103 = .ok (.iconst 0, 1) := by decide +kernel
theorem dX6_init_104 : decode cX6_init 104 = .ok (.putfield 61, 3) := by decide +kernel
theorem dX6_init_107 : decode cX6_init 107 = .ok (.return_, 1) := by decide +kernel
theorem dX6_letter_0 : decode cX6_letter 0 = .ok (.iload_n 1, 1) := by decide +kernel
theorem dX6_letter_1 : decode cX6_letter 1 = .ok (.ifCond .ge 10, 3) := by decide +kernel
theorem dX6_letter_4 : decode cX6_letter 4 = .ok (.aload_n 0, 1) := by decide +kernel
theorem dX6_letter_5 : decode cX6_letter 5 = .ok (.bipush (-4), 2) := by decide +kernel
theorem dX6_letter_7 : decode cX6_letter 7 = .ok (.invokevirtual 65, 3) := by decide +kernel
theorem dX6_letter_10 : decode cX6_letter 10 = .ok (.ireturn, 1) := by decide +kernel
theorem dX6_letter_11 : decode cX6_letter 11 = .ok (.iload_n 1, 1) := by decide +kernel
theorem dX6_letter_12 : decode cX6_letter 12 = .ok (.sipush 255, 3) := by decide +kernel
theorem dX6_letter_15 : decode cX6_letter 15 = .ok (.if_icmp .gt 15, 3) := by decide +kernel
theorem dX6_letter_18 : decode cX6_letter 18 = .ok (.aload_n 0, 1) := by decide +kernel
theorem dX6_letter_19 : decode cX6_letter 19 = .ok (.getfield 25, 3) := by decide +kernel
theorem dX6_letter_22 : decode cX6_letter 22 = .ok (.getfield 69, 3) := by decide +kernel
theorem dX6_letter_25 : decode cX6_letter 25 = .ok (.bipush 96, 2) := by decide +kernel
theorem dX6_letter_27 : decode cX6_letter 27 = .ok (.if_icmp .lt 10, 3) := by decide +kernel
theorem dX6_letter_30 : decode cX6_letter 30 = .ok (.aload_n 0, 1) := by decide +kernel
theorem dX6_letter_31 : decode cX6_letter 31 = .ok (.bipush (-6), 2) := by decide +kernel
theorem dX6_letter_33 : decode cX6_letter 33 = .ok (.invokevirtual 65, 3) := by decide +kernel
theorem dX6_letter_36 : decode cX6_letter 36 = .ok (.ireturn, 1) := by decide +kernel
theorem dX6_letter_37 : decode cX6_letter 37 = .ok (.aload_n 0, 1) := by decide +kernel
theorem dX6_letter_38 : decode cX6_letter 38 = .ok (.getfield 25, 3) := by decide +kernel
theorem dX6_letter_41 : decode cX6_letter 41 = .ok (.iload_n 1, 1) := by decide +kernel
theorem dX6_letter_42 : decode cX6_letter 42 = .ok (.invokevirtual 72, 3) := by decide +kernel
theorem dX6_letter_45 : decode cX6_letter 45 = .ok (.aload_n 0, 1) := by decide +kernel
theorem dX6_letter_46 : decode cX6_letter 46 = .ok (.getfield 25, 3) := by decide +kernel
theorem dX6_letter_49 : decode cX6_letter 49 = .ok (.getfield 69, 3) := by decide +kernel
theorem dX6_letter_52 : decode cX6_letter 52 = .ok (.ireturn, 1) := by decide +kernel
theorem dX6_night_0 : decode cX6_night 0 = .ok (.aload_n 0, 1) := by decide +kernel
theorem dX6_night_1 : decode cX6_night 1 = .ok (.getfield 19, 3) := by decide +kernel
theorem dX6_night_4 : decode cX6_night 4 = .ok (.aload_n 0, 1) := by decide +kernel
theorem dX6_night_5 : decode cX6_night 5 = .ok (.getfield 10, 3) := by decide +kernel
theorem dX6_night_8 : decode cX6_night 8 = .ok (.invokevirtual 76, 3) := by decide +kernel
theorem dX6_night_11 : decode cX6_night 11 = .ok (.aload_n 0, 1) := by decide +kernel
theorem dX6_night_12 : decode cX6_night 12 = .ok (.getfield 25, 3) := by decide +kernel
theorem dX6_night_15 : decode cX6_night 15 = .ok (.aload_n 0, 1) := by decide +kernel
theorem dX6_night_16 : decode cX6_night 16 = .ok (.getfield 19, 3) := by decide +kernel
theorem dX6_night_19 : decode cX6_night 19 = .ok (.invokevirtual 80, 3) := by decide +kernel
theorem dX6_night_22 : decode cX6_night 22 = .ok (.istore_n 1, 1) := by decide +kernel
theorem dX6_night_23 : decode cX6_night 23 = .ok (.iload_n 1, 1) := by decide +kernel
theorem dX6_night_24 : decode cX6_night 24 = .ok (.ifCond .lt 14, 3) := by decide +kernel
theorem dX6_night_27 : decode cX6_night 27 = .ok (.aload_n 0, 1) := by decide +kernel
theorem dX6_night_28 : decode cX6_night 28 = .ok (.getfield 10, 3) := by decide +kernel
theorem dX6_night_31 : decode cX6_night 31 = .ok (.aload_n 0, 1) := by decide +kernel
theorem dX6_night_32 : decode cX6_night 32 = .ok (.getfield 19, 3) := by decide +kernel
theorem dX6_night_35 : decode cX6_night 35 = .ok (.invokevirtual 76, 3) := by decide +kernel
theorem dX6_night_38 : decode cX6_night 38 = .ok (.aload_n 0, 1) := by decide +kernel
theorem dX6_night_39 : decode cX6_night 39 = .ok (.getfield 25, 3) := by decide +kernel
theorem dX6_night_42 : decode cX6_night 42 = .ok (.iconst 0, 1) := by decide +kernel
theorem dX6_night_43 : decode cX6_night 43 = .ok (.putfield 69, 3) := by decide +kernel
theorem dX6_night_46 : decode cX6_night 46 = .ok (.iload_n 1, 1) := by decide +kernel
theorem dX6_night_47 : decode cX6_night 47 = .ok (.ireturn, 1) := by decide +kernel
theorem dX6_goer_0 : decode cX6_goer 0 = .ok (.aload_n 0, 1) := by decide +kernel
theorem dX6_goer_1 : decode cX6_goer 1 = .ok (.getfield 10, 3) := by decide +kernel
theorem dX6_goer_4 : decode cX6_goer 4 = .ok (.iload_n 1, 1) := by decide +kernel
theorem dX6_goer_5 : decode cX6_goer 5 = .ok (.invokevirtual 84, 3) := by decide +kernel
theorem dX6_goer_8 : decode cX6_goer 8 = .ok (.ifCond .ne 9, 3) := by decide +kernel
theorem dX6_goer_11 : decode cX6_goer 11 = .ok (.aload_n 0, 1) := by decide +kernel
theorem dX6_goer_12 : decode cX6_goer 12 = .ok (.iconst (-1), 1) := by decide +kernel
theorem dX6_goer_13 : decode cX6_goer 13 = .ok (.invokevirtual 65, 3) := by decide +kernel
theorem dX6_goer_16 : decode cX6_goer 16 = .ok (.ireturn, 1) := by decide +kernel
theorem dX6_goer_17 : decode cX6_goer 17 = .ok (.iload_n 2, 1) := by decide +kernel
theorem dX6_goer_18 : decode cX6_goer 18 = .ok (.tableswitch 120 0 6 #[42, 54, 66, 78, 90, 102, 111], 42) := by decide +kernel
theorem dX6_goer_60 : decode cX6_goer 60 = .ok (.aload_n 0, 1) := by decide +kernel
theorem dX6_goer_61 : decode cX6_goer 61 = .ok (.getfield 10, 3) := by decide +kernel
theorem dX6_goer_64 : decode cX6_goer 64 = .ok (.getfield 88, 3) := by decide +kernel
theorem dX6_goer_67 : decode cX6_goer 67 = .ok (.iload_n 1, 1) := by decide +kernel
theorem dX6_goer_68 : decode cX6_goer 68 = .ok (.invokestatic 91, 3) := by decide +kernel
theorem dX6_goer_71 : decode cX6_goer 71 = .ok (.ireturn, 1) := by decide +kernel
theorem dX6_goer_72 : decode cX6_goer 72 = .ok (.aload_n 0, 1) := by decide +kernel
theorem dX6_goer_73 : decode cX6_goer 73 = .ok (.getfield 10, 3) := by decide +kernel
theorem dX6_goer_76 : decode cX6_goer 76 = .ok (.getfield 97, 3) := by decide +kernel
theorem dX6_goer_79 : decode cX6_goer 79 = .ok (.iload_n 1, 1) := by decide +kernel
theorem dX6_goer_80 : decode cX6_goer 80 = .ok (.invokestatic 91, 3) := by decide +kernel
theorem dX6_goer_83 : decode cX6_goer 83 = .ok (.ireturn, 1) := by decide +kernel
theorem dX6_goer_84 : decode cX6_goer 84 = .ok (.aload_n 0, 1) := by decide +kernel
theorem dX6_goer_85 : decode cX6_goer 85 = .ok (.getfield 10, 3) := by decide +kernel
theorem dX6_goer_88 : decode cX6_goer 88 = .ok (.getfield 100, 3) := by decide +kernel
theorem dX6_goer_91 : decode cX6_goer 91 = .ok (.iload_n 1, 1) := by decide +kernel
theorem dX6_goer_92 : decode cX6_goer 92 = .ok (.invokestatic 91, 3) := by decide +kernel
theorem dX6_goer_95 : decode cX6_goer 95 = .ok (.ireturn, 1) := by decide +kernel
theorem dX6_goer_96 : decode cX6_goer 96 = .ok (.aload_n 0, 1) := by decide +kernel
theorem dX6_goer_97 : decode cX6_goer 97 = .ok (.getfield 10, 3) := by decide +kernel
theorem dX6_goer_100 : decode cX6_goer 100 = .ok (.getfield 103, 3) := by decide +kernel
theorem dX6_goer_103 : decode cX6_goer 103 = .ok (.iload_n 1, 1) := by decide +kernel
theorem dX6_goer_104 : decode cX6_goer 104 = .ok (.invokestatic 91, 3) := by decide +kernel
theorem dX6_goer_107 : decode cX6_goer 107 = .ok (.ireturn, 1) := by decide +kernel
theorem dX6_goer_108 : decode cX6_goer 108 = .ok (.aload_n 0, 1) := by decide +kernel
theorem dX6_goer_109 : decode cX6_goer 109 = .ok (.getfield 10, 3) := by decide +kernel
theorem dX6_goer_112 : decode cX6_goer 112 = .ok (.getfield 106, 3) := by decide +kernel
theorem dX6_goer_115 : decode cX6_goer 115 = .ok (.iload_n 1, 1) := by decide +kernel
theorem dX6_goer_116 : decode cX6_goer 116 = .ok (.invokestatic 91, 3) := by decide +kernel
theorem dX6_goer_119 : decode cX6_goer 119 = .ok (.ireturn, 1) := by decide +kernel
theorem dX6_goer_120 : decode cX6_goer 120 = .ok (.aload_n 0, 1) := by decide +kernel
theorem dX6_goer_121 : decode cX6_goer 121 = .ok (.getfield 10, 3) := by decide +kernel
theorem dX6_goer_124 : decode cX6_goer 124 = .ok (.iload_n 1, 1) := by decide +kernel
theorem dX6_goer_125 : decode cX6_goer 125 = .ok (.invokevirtual 109, 3) := by decide +kernel
theorem dX6_goer_128 : decode cX6_goer 128 = .ok (.ireturn, 1) := by decide +kernel
theorem dX6_goer_129 : decode cX6_goer 129 = .ok (.aload_n 0, 1) := by decide +kernel
theorem dX6_goer_130 : decode cX6_goer 130 = .ok (.getfield 10, 3) := by decide +kernel
theorem dX6_goer_133 : decode cX6_goer 133 = .ok (.iload_n 1, 1) := by decide +kernel
theorem dX6_goer_134 : decode cX6_goer 134 = .ok (.invokevirtual 112, 3) := by decide +kernel
theorem dX6_goer_137 : decode cX6_goer 137 = .ok (.ireturn, 1) := by decide +kernel
theorem dX6_goer_138 : decode cX6_goer 138 = .ok (.aload_n 0, 1) := by decide +kernel
theorem dX6_goer_139 : decode cX6_goer 139 = .ok (.bipush (-2), 2) := by decide +kernel
theorem dX6_goer_141 : decode cX6_goer 141 = .ok (.invokevirtual 65, 3) := by decide +kernel
theorem dX6_goer_144 : decode cX6_goer 144 = .ok (.ireturn, 1) := by decide +kernel
theorem dX6_hour_0 : decode cX6_hour 0 = .ok (.aload_n 0, 1) := by decide +kernel
theorem dX6_hour_1 : decode cX6_hour 1 = .ok (.getfield 10, 3) := by decide +kernel
theorem dX6_hour_4 : decode cX6_hour 4 = .ok (.iload_n 1, 1) := by decide +kernel
theorem dX6_hour_5 : decode cX6_hour 5 = .ok (.invokevirtual 84, 3) := by decide +kernel
theorem dX6_hour_8 : decode cX6_hour 8 = .ok (.ifCond .ne 9, 3) := by decide +kernel
theorem dX6_hour_11 : decode cX6_hour 11 = .ok (.aload_n 0, 1) := by decide +kernel
theorem dX6_hour_12 : decode cX6_hour 12 = .ok (.iconst (-1), 1) := by decide +kernel
theorem dX6_hour_13 : decode cX6_hour 13 = .ok (.invokevirtual 65, 3) := by decide +kernel
theorem dX6_hour_16 : decode cX6_hour 16 = .ok (.ireturn, 1) := by decide +kernel
theorem dX6_hour_17 : decode cX6_hour 17 = .ok (.iload_n 2, 1) := by decide +kernel
theorem dX6_hour_18 : decode cX6_hour 18 = .ok (.ifCond .ge 10, 3) := by decide +kernel
theorem dX6_hour_21 : decode cX6_hour 21 = .ok (.aload_n 0, 1) := by decide +kernel
theorem dX6_hour_22 : decode cX6_hour 22 = .ok (.bipush (-4), 2) := by decide +kernel
theorem dX6_hour_24 : decode cX6_hour 24 = .ok (.invokevirtual 65, 3) := by decide +kernel
theorem dX6_hour_27 : decode cX6_hour 27 = .ok (.ireturn, 1) := by decide +kernel
theorem dX6_hour_28 : decode cX6_hour 28 = .ok (.iload_n 2, 1) := by decide +kernel
theorem dX6_hour_29 : decode cX6_hour 29 = .ok (.bipush 12, 2) := by decide +kernel
theorem dX6_hour_31 : decode cX6_hour 31 = .ok (.if_icmp .lt 10, 3) := by decide +kernel
theorem dX6_hour_34 : decode cX6_hour 34 = .ok (.aload_n 0, 1) := by decide +kernel
theorem dX6_hour_35 : decode cX6_hour 35 = .ok (.bipush (-6), 2) := by decide +kernel
theorem dX6_hour_37 : decode cX6_hour 37 = .ok (.invokevirtual 65, 3) := by decide +kernel
theorem dX6_hour_40 : decode cX6_hour 40 = .ok (.ireturn, 1) := by decide +kernel
theorem dX6_hour_41 : decode cX6_hour 41 = .ok (.aload_n 0, 1) := by decide +kernel
theorem dX6_hour_42 : decode cX6_hour 42 = .ok (.getfield 10, 3) := by decide +kernel
theorem dX6_hour_45 : decode cX6_hour 45 = .ok (.getfield 106, 3) := by decide +kernel
theorem dX6_hour_48 : decode cX6_hour 48 = .ok (.iload_n 1, 1) := by decide +kernel
theorem dX6_hour_49 : decode cX6_hour 49 = .ok (.invokestatic 91, 3) := by decide +kernel
theorem dX6_hour_52 : decode cX6_hour 52 = .ok (.istore_n 3, 1) := by decide +kernel
theorem dX6_hour_53 : decode cX6_hour 53 = .ok (.aload_n 0, 1) := by decide +kernel
theorem dX6_hour_54 : decode cX6_hour 54 = .ok (.getfield 10, 3) := by decide +kernel
theorem dX6_hour_57 : decode cX6_hour 57 = .ok (.getfield 106, 3) := by decide +kernel
theorem dX6_hour_60 : decode cX6_hour 60 = .ok (.iload_n 1, 1) := by decide +kernel
theorem dX6_hour_61 : decode cX6_hour 61 = .ok (.iload_n 2, 1) := by decide +kernel
theorem dX6_hour_62 : decode cX6_hour 62 = .ok (.invokestatic 115, 3) := by decide +kernel
theorem dX6_hour_65 : decode cX6_hour 65 = .ok (.iload_n 3, 1) := by decide +kernel
theorem dX6_hour_66 : decode cX6_hour 66 = .ok (.ireturn, 1) := by decide +kernel
theorem dX6_set_0 : decode cX6_set 0 = .ok (.iload_n 1, 1) := by decide +kernel
theorem dX6_set_1 : decode cX6_set 1 = .ok (.ifCond .lt 8, 3) := by decide +kernel
theorem dX6_set_4 : decode cX6_set 4 = .ok (.iload_n 1, 1) := by decide +kernel
theorem dX6_set_5 : decode cX6_set 5 = .ok (.iconst 3, 1) := by decide +kernel
theorem dX6_set_6 : decode cX6_set 6 = .ok (.if_icmp .lt 10, 3) := by decide +kernel
theorem dX6_set_9 : decode cX6_set 9 = .ok (.aload_n 0, 1) := by decide +kernel
theorem dX6_set_10 : decode cX6_set 10 = .ok (.bipush (-2), 2) := by decide +kernel
theorem dX6_set_12 : decode cX6_set 12 = .ok (.invokevirtual 65, 3) := by decide +kernel
theorem dX6_set_15 : decode cX6_set 15 = .ok (.ireturn, 1) := by decide +kernel
theorem dX6_set_16 : decode cX6_set 16 = .ok (.iload_n 2, 1) := by decide +kernel
theorem dX6_set_17 : decode cX6_set 17 = .ok (.ifCond .ge 10, 3) := by decide +kernel
theorem dX6_set_20 : decode cX6_set 20 = .ok (.aload_n 0, 1) := by decide +kernel
theorem dX6_set_21 : decode cX6_set 21 = .ok (.bipush (-4), 2) := by decide +kernel
theorem dX6_set_23 : decode cX6_set 23 = .ok (.invokevirtual 65, 3) := by decide +kernel
theorem dX6_set_26 : decode cX6_set 26 = .ok (.ireturn, 1) := by decide +kernel
theorem dX6_set_27 : decode cX6_set 27 = .ok (.aload_n 0, 1) := by decide +kernel
theorem dX6_set_28 : decode cX6_set 28 = .ok (.getfield 10, 3) := by decide +kernel
theorem dX6_set_31 : decode cX6_set 31 = .ok (.getfield 119, 3) := by decide +kernel
theorem dX6_set_34 : decode cX6_set 34 = .ok (.iload_n 1, 1) := by decide +kernel
theorem dX6_set_35 : decode cX6_set 35 = .ok (.invokestatic 91, 3) := by decide +kernel
theorem dX6_set_38 : decode cX6_set 38 = .ok (.istore_n 3, 1) := by decide +kernel
theorem dX6_set_39 : decode cX6_set 39 = .ok (.aload_n 0, 1) := by decide +kernel
theorem dX6_set_40 : decode cX6_set 40 = .ok (.getfield 10, 3) := by decide +kernel
theorem dX6_set_43 : decode cX6_set 43 = .ok (.iload_n 1, 1) := by decide +kernel
theorem dX6_set_44 : decode cX6_set 44 = .ok (.iload_n 2, 1) := by decide +kernel
theorem dX6_set_45 : decode cX6_set 45 = .ok (.invokevirtual 122, 3) := by decide +kernel
theorem dX6_set_48 : decode cX6_set 48 = .ok (.ifCond .ne 10, 3) := by decide +kernel
theorem dX6_set_51 : decode cX6_set 51 = .ok (.aload_n 0, 1) := by decide +kernel
theorem dX6_set_52 : decode cX6_set 52 = .ok (.bipush (-6), 2) := by decide +kernel
theorem dX6_set_54 : decode cX6_set 54 = .ok (.invokevirtual 65, 3) := by decide +kernel
theorem dX6_set_57 : decode cX6_set 57 = .ok (.ireturn, 1) := by decide +kernel
theorem dX6_set_58 : decode cX6_set 58 = .ok (.iload_n 3, 1) := by decide +kernel
theorem dX6_set_59 : decode cX6_set 59 = .ok (.ireturn, 1) := by decide +kernel
theorem dX6_sums_0 : decode cX6_sums 0 = .ok (.aload_n 0, 1) := by decide +kernel
theorem dX6_sums_1 : decode cX6_sums 1 = .ok (.getfield 32, 3) := by decide +kernel
theorem dX6_sums_4 : decode cX6_sums 4 = .ok (.aload_n 0, 1) := by decide +kernel
theorem dX6_sums_5 : decode cX6_sums 5 = .ok (.getfield 10, 3) := by decide +kernel
theorem dX6_sums_8 : decode cX6_sums 8 = .ok (.invokevirtual 126, 3) := by decide +kernel
theorem dX6_sums_11 : decode cX6_sums 11 = .ok (.pop, 1) := by decide +kernel
theorem dX6_sums_12 : decode cX6_sums 12 = .ok (.iload_n 1, 1) := by decide +kernel
theorem dX6_sums_13 : decode cX6_sums 13 = .ok (.tableswitch 99 0 6 #[43, 51, 59, 67, 75, 83, 91], 43) := by decide +kernel
theorem dX6_sums_56 : decode cX6_sums 56 = .ok (.aload_n 0, 1) := by decide +kernel
theorem dX6_sums_57 : decode cX6_sums 57 = .ok (.getfield 32, 3) := by decide +kernel
theorem dX6_sums_60 : decode cX6_sums 60 = .ok (.getfield 129, 3) := by decide +kernel
theorem dX6_sums_63 : decode cX6_sums 63 = .ok (.ireturn, 1) := by decide +kernel
theorem dX6_sums_64 : decode cX6_sums 64 = .ok (.aload_n 0, 1) := by decide +kernel
theorem dX6_sums_65 : decode cX6_sums 65 = .ok (.getfield 32, 3) := by decide +kernel
theorem dX6_sums_68 : decode cX6_sums 68 = .ok (.getfield 132, 3) := by decide +kernel
theorem dX6_sums_71 : decode cX6_sums 71 = .ok (.ireturn, 1) := by decide +kernel
theorem dX6_sums_72 : decode cX6_sums 72 = .ok (.aload_n 0, 1) := by decide +kernel
theorem dX6_sums_73 : decode cX6_sums 73 = .ok (.getfield 32, 3) := by decide +kernel
theorem dX6_sums_76 : decode cX6_sums 76 = .ok (.getfield 135, 3) := by decide +kernel
theorem dX6_sums_79 : decode cX6_sums 79 = .ok (.ireturn, 1) := by decide +kernel
theorem dX6_sums_80 : decode cX6_sums 80 = .ok (.aload_n 0, 1) := by decide +kernel
theorem dX6_sums_81 : decode cX6_sums 81 = .ok (.getfield 32, 3) := by decide +kernel
theorem dX6_sums_84 : decode cX6_sums 84 = .ok (.invokevirtual 138, 3) := by decide +kernel
theorem dX6_sums_87 : decode cX6_sums 87 = .ok (.ireturn, 1) := by decide +kernel
theorem dX6_sums_88 : decode cX6_sums 88 = .ok (.aload_n 0, 1) := by decide +kernel
theorem dX6_sums_89 : decode cX6_sums 89 = .ok (.getfield 32, 3) := by decide +kernel
theorem dX6_sums_92 : decode cX6_sums 92 = .ok (.invokevirtual 142, 3) := by decide +kernel
theorem dX6_sums_95 : decode cX6_sums 95 = .ok (.ireturn, 1) := by decide +kernel
theorem dX6_sums_96 : decode cX6_sums 96 = .ok (.aload_n 0, 1) := by decide +kernel
theorem dX6_sums_97 : decode cX6_sums 97 = .ok (.getfield 32, 3) := by decide +kernel
theorem dX6_sums_100 : decode cX6_sums 100 = .ok (.getfield 145, 3) := by decide +kernel
theorem dX6_sums_103 : decode cX6_sums 103 = .ok (.ireturn, 1) := by decide +kernel
theorem dX6_sums_104 : decode cX6_sums 104 = .ok (.aload_n 0, 1) := by decide +kernel
theorem dX6_sums_105 : decode cX6_sums 105 = .ok (.getfield 32, 3) := by decide +kernel
theorem dX6_sums_108 : decode cX6_sums 108 = .ok (.getfield 148, 3) := by decide +kernel
theorem dX6_sums_111 : decode cX6_sums 111 = .ok (.ireturn, 1) := by decide +kernel
theorem dX6_sums_112 : decode cX6_sums 112 = .ok (.aload_n 0, 1) := by decide +kernel
theorem dX6_sums_113 : decode cX6_sums 113 = .ok (.bipush (-2), 2) := by decide +kernel
theorem dX6_sums_115 : decode cX6_sums 115 = .ok (.invokevirtual 65, 3) := by decide +kernel
theorem dX6_sums_118 : decode cX6_sums 118 = .ok (.ireturn, 1) := by decide +kernel
theorem dX6_of_0 : decode cX6_of 0 = .ok (.aload_n 0, 1) := by decide +kernel
theorem dX6_of_1 : decode cX6_of 1 = .ok (.getfield 10, 3) := by decide +kernel
theorem dX6_of_4 : decode cX6_of 4 = .ok (.iload_n 1, 1) := by decide +kernel
theorem dX6_of_5 : decode cX6_of 5 = .ok (.invokevirtual 84, 3) := by decide +kernel
theorem dX6_of_8 : decode cX6_of 8 = .ok (.ifCond .ne 9, 3) := by decide +kernel
theorem dX6_of_11 : decode cX6_of 11 = .ok (.aload_n 0, 1) := by decide +kernel
theorem dX6_of_12 : decode cX6_of 12 = .ok (.iconst (-1), 1) := by decide +kernel
theorem dX6_of_13 : decode cX6_of 13 = .ok (.invokevirtual 65, 3) := by decide +kernel
theorem dX6_of_16 : decode cX6_of 16 = .ok (.ireturn, 1) := by decide +kernel
theorem dX6_of_17 : decode cX6_of 17 = .ok (.aload_n 0, 1) := by decide +kernel
theorem dX6_of_18 : decode cX6_of 18 = .ok (.getfield 32, 3) := by decide +kernel
theorem dX6_of_21 : decode cX6_of 21 = .ok (.aload_n 0, 1) := by decide +kernel
theorem dX6_of_22 : decode cX6_of 22 = .ok (.getfield 10, 3) := by decide +kernel
theorem dX6_of_25 : decode cX6_of 25 = .ok (.invokevirtual 126, 3) := by decide +kernel
theorem dX6_of_28 : decode cX6_of 28 = .ok (.pop, 1) := by decide +kernel
theorem dX6_of_29 : decode cX6_of 29 = .ok (.iload_n 2, 1) := by decide +kernel
theorem dX6_of_30 : decode cX6_of 30 = .ok (.tableswitch 94 0 4 #[34, 46, 58, 70, 82], 34) := by decide +kernel
theorem dX6_of_64 : decode cX6_of 64 = .ok (.aload_n 0, 1) := by decide +kernel
theorem dX6_of_65 : decode cX6_of 65 = .ok (.getfield 32, 3) := by decide +kernel
theorem dX6_of_68 : decode cX6_of 68 = .ok (.getfield 151, 3) := by decide +kernel
theorem dX6_of_71 : decode cX6_of 71 = .ok (.iload_n 1, 1) := by decide +kernel
theorem dX6_of_72 : decode cX6_of 72 = .ok (.invokestatic 91, 3) := by decide +kernel
theorem dX6_of_75 : decode cX6_of 75 = .ok (.ireturn, 1) := by decide +kernel
theorem dX6_of_76 : decode cX6_of 76 = .ok (.aload_n 0, 1) := by decide +kernel
theorem dX6_of_77 : decode cX6_of 77 = .ok (.getfield 32, 3) := by decide +kernel
theorem dX6_of_80 : decode cX6_of 80 = .ok (.getfield 154, 3) := by decide +kernel
theorem dX6_of_83 : decode cX6_of 83 = .ok (.iload_n 1, 1) := by decide +kernel
theorem dX6_of_84 : decode cX6_of 84 = .ok (.invokestatic 91, 3) := by decide +kernel
theorem dX6_of_87 : decode cX6_of 87 = .ok (.ireturn, 1) := by decide +kernel
theorem dX6_of_88 : decode cX6_of 88 = .ok (.aload_n 0, 1) := by decide +kernel
theorem dX6_of_89 : decode cX6_of 89 = .ok (.getfield 32, 3) := by decide +kernel
theorem dX6_of_92 : decode cX6_of 92 = .ok (.getfield 157, 3) := by decide +kernel
theorem dX6_of_95 : decode cX6_of 95 = .ok (.iload_n 1, 1) := by decide +kernel
theorem dX6_of_96 : decode cX6_of 96 = .ok (.invokestatic 91, 3) := by decide +kernel
theorem dX6_of_99 : decode cX6_of 99 = .ok (.ireturn, 1) := by decide +kernel
theorem dX6_of_100 : decode cX6_of 100 = .ok (.aload_n 0, 1) := by decide +kernel
theorem dX6_of_101 : decode cX6_of 101 = .ok (.getfield 32, 3) := by decide +kernel
theorem dX6_of_104 : decode cX6_of 104 = .ok (.getfield 160, 3) := by decide +kernel
theorem dX6_of_107 : decode cX6_of 107 = .ok (.iload_n 1, 1) := by decide +kernel
theorem dX6_of_108 : decode cX6_of 108 = .ok (.invokestatic 91, 3) := by decide +kernel
theorem dX6_of_111 : decode cX6_of 111 = .ok (.ireturn, 1) := by decide +kernel
theorem dX6_of_112 : decode cX6_of 112 = .ok (.aload_n 0, 1) := by decide +kernel
theorem dX6_of_113 : decode cX6_of 113 = .ok (.getfield 32, 3) := by decide +kernel
theorem dX6_of_116 : decode cX6_of 116 = .ok (.getfield 163, 3) := by decide +kernel
theorem dX6_of_119 : decode cX6_of 119 = .ok (.iload_n 1, 1) := by decide +kernel
theorem dX6_of_120 : decode cX6_of 120 = .ok (.invokestatic 91, 3) := by decide +kernel
theorem dX6_of_123 : decode cX6_of 123 = .ok (.ireturn, 1) := by decide +kernel
theorem dX6_of_124 : decode cX6_of 124 = .ok (.aload_n 0, 1) := by decide +kernel
theorem dX6_of_125 : decode cX6_of 125 = .ok (.bipush (-2), 2) := by decide +kernel
theorem dX6_of_127 : decode cX6_of 127 = .ok (.invokevirtual 65, 3) := by decide +kernel
theorem dX6_of_130 : decode cX6_of 130 = .ok (.ireturn, 1) := by decide +kernel
theorem dX6_lamp_0 : decode cX6_lamp 0 = .ok (.iload_n 1, 1) := by decide +kernel
theorem dX6_lamp_1 : decode cX6_lamp 1 = .ok (.invokestatic 166, 3) := by decide +kernel
theorem dX6_lamp_4 : decode cX6_lamp 4 = .ok (.istore_n 2, 1) := by decide +kernel
theorem dX6_lamp_5 : decode cX6_lamp 5 = .ok (.iload_n 2, 1) := by decide +kernel
theorem dX6_lamp_6 : decode cX6_lamp 6 = .ok (.ifCond .eq 9, 3) := by decide +kernel
theorem dX6_lamp_9 : decode cX6_lamp 9 = .ok (.aload_n 0, 1) := by decide +kernel
theorem dX6_lamp_10 : decode cX6_lamp 10 = .ok (.iload_n 2, 1) := by decide +kernel
theorem dX6_lamp_11 : decode cX6_lamp 11 = .ok (.invokevirtual 65, 3) := by decide +kernel
theorem dX6_lamp_14 : decode cX6_lamp 14 = .ok (.ireturn, 1) := by decide +kernel
theorem dX6_lamp_15 : decode cX6_lamp 15 = .ok (.aload_n 0, 1) := by decide +kernel
theorem dX6_lamp_16 : decode cX6_lamp 16 = .ok (.getfield 32, 3) := by decide +kernel
theorem dX6_lamp_19 : decode cX6_lamp 19 = .ok (.aload_n 0, 1) := by decide +kernel
theorem dX6_lamp_20 : decode cX6_lamp 20 = .ok (.getfield 10, 3) := by decide +kernel
theorem dX6_lamp_23 : decode cX6_lamp 23 = .ok (.invokevirtual 126, 3) := by decide +kernel
theorem dX6_lamp_26 : decode cX6_lamp 26 = .ok (.pop, 1) := by decide +kernel
theorem dX6_lamp_27 : decode cX6_lamp 27 = .ok (.aload_n 0, 1) := by decide +kernel
theorem dX6_lamp_28 : decode cX6_lamp 28 = .ok (.getfield 32, 3) := by decide +kernel
theorem dX6_lamp_31 : decode cX6_lamp 31 = .ok (.getfield 169, 3) := by decide +kernel
theorem dX6_lamp_34 : decode cX6_lamp 34 = .ok (.iload_n 1, 1) := by decide +kernel
theorem dX6_lamp_35 : decode cX6_lamp 35 = .ok (.invokestatic 91, 3) := by decide +kernel
theorem dX6_lamp_38 : decode cX6_lamp 38 = .ok (.ireturn, 1) := by decide +kernel
theorem dX6_best_0 : decode cX6_best 0 = .ok (.iload_n 1, 1) := by decide +kernel
theorem dX6_best_1 : decode cX6_best 1 = .ok (.ifCond .eq 15, 3) := by decide +kernel
theorem dX6_best_4 : decode cX6_best 4 = .ok (.iload_n 1, 1) := by decide +kernel
theorem dX6_best_5 : decode cX6_best 5 = .ok (.iconst 1, 1) := by decide +kernel
theorem dX6_best_6 : decode cX6_best 6 = .ok (.if_icmp .eq 10, 3) := by decide +kernel
theorem dX6_best_9 : decode cX6_best 9 = .ok (.aload_n 0, 1) := by decide +kernel
theorem dX6_best_10 : decode cX6_best 10 = .ok (.bipush (-2), 2) := by decide +kernel
theorem dX6_best_12 : decode cX6_best 12 = .ok (.invokevirtual 65, 3) := by decide +kernel
theorem dX6_best_15 : decode cX6_best 15 = .ok (.ireturn, 1) := by decide +kernel
theorem dX6_best_16 : decode cX6_best 16 = .ok (.aload_n 0, 1) := by decide +kernel
theorem dX6_best_17 : decode cX6_best 17 = .ok (.getfield 10, 3) := by decide +kernel
theorem dX6_best_20 : decode cX6_best 20 = .ok (.getfield 172, 3) := by decide +kernel
theorem dX6_best_23 : decode cX6_best 23 = .ok (.bipush 6, 2) := by decide +kernel
theorem dX6_best_25 : decode cX6_best 25 = .ok (.if_icmp .le 10, 3) := by decide +kernel
theorem dX6_best_28 : decode cX6_best 28 = .ok (.aload_n 0, 1) := by decide +kernel
theorem dX6_best_29 : decode cX6_best 29 = .ok (.bipush (-3), 2) := by decide +kernel
theorem dX6_best_31 : decode cX6_best 31 = .ok (.invokevirtual 65, 3) := by decide +kernel
theorem dX6_best_34 : decode cX6_best 34 = .ok (.ireturn, 1) := by decide +kernel
theorem dX6_best_35 : decode cX6_best 35 = .ok (.iload_n 2, 1) := by decide +kernel
theorem dX6_best_36 : decode cX6_best 36 = .ok (.iconst (-1), 1) := by decide +kernel
theorem dX6_best_37 : decode cX6_best 37 = .ok (.if_icmp .ge 10, 3) := by decide +kernel
theorem dX6_best_40 : decode cX6_best 40 = .ok (.aload_n 0, 1) := by decide +kernel
theorem dX6_best_41 : decode cX6_best 41 = .ok (.bipush (-4), 2) := by decide +kernel
theorem dX6_best_43 : decode cX6_best 43 = .ok (.invokevirtual 65, 3) := by decide +kernel
theorem dX6_best_46 : decode cX6_best 46 = .ok (.ireturn, 1) := by decide +kernel
theorem dX6_best_47 : decode cX6_best 47 = .ok (.iload_n 2, 1) := by decide +kernel
theorem dX6_best_48 : decode cX6_best 48 = .ok (.aload_n 0, 1) := by decide +kernel
theorem dX6_best_49 : decode cX6_best 49 = .ok (.getfield 10, 3) := by decide +kernel
theorem dX6_best_52 : decode cX6_best 52 = .ok (.getfield 172, 3) := by decide +kernel
theorem dX6_best_55 : decode cX6_best 55 = .ok (.if_icmp .lt 9, 3) := by decide +kernel
theorem dX6_best_58 : decode cX6_best 58 = .ok (.aload_n 0, 1) := by decide +kernel
theorem dX6_best_59 : decode cX6_best 59 = .ok (.iconst (-1), 1) := by decide +kernel
theorem dX6_best_60 : decode cX6_best 60 = .ok (.invokevirtual 65, 3) := by decide +kernel
theorem dX6_best_63 : decode cX6_best 63 = .ok (.ireturn, 1) := by decide +kernel
theorem dX6_best_64 : decode cX6_best 64 = .ok (.aload_n 0, 1) := by decide +kernel
theorem dX6_best_65 : decode cX6_best 65 = .ok (.getfield 39, 3) := by decide +kernel
theorem dX6_best_68 : decode cX6_best 68 = .ok (.aload_n 0, 1) := by decide +kernel
theorem dX6_best_69 : decode cX6_best 69 = .ok (.getfield 10, 3) := by decide +kernel
theorem dX6_best_72 : decode cX6_best 72 = .ok (.aload_n 0, 1) := by decide +kernel
theorem dX6_best_73 : decode cX6_best 73 = .ok (.getfield 32, 3) := by decide +kernel
theorem dX6_best_76 : decode cX6_best 76 = .ok (.iload_n 1, 1) := by decide +kernel
theorem dX6_best_77 : decode cX6_best 77 = .ok (.iconst 1, 1) := by decide +kernel
theorem dX6_best_78 : decode cX6_best 78 = .ok (.if_icmp .ne 7, 3) := by decide +kernel
theorem dX6_best_81 : decode cX6_best 81 = .ok (.iconst 1, 1) := by decide +kernel
theorem dX6_best_82 : decode cX6_best 82 = .ok (.goto 4, 3) := by decide +kernel
theorem dX6_best_85 : decode cX6_best 85 = .ok (.iconst 0, 1) := by decide +kernel
theorem dX6_best_86 : decode cX6_best 86 = .ok (.invokevirtual 173, 3) := by decide +kernel
theorem dX6_best_89 : decode cX6_best 89 = .ok (.aload_n 0, 1) := by decide +kernel
theorem dX6_best_90 : decode cX6_best 90 = .ok (.getfield 39, 3) := by decide +kernel
theorem dX6_best_93 : decode cX6_best 93 = .ok (.getfield 177, 3) := by decide +kernel
theorem dX6_best_96 : decode cX6_best 96 = .ok (.ifCond .ne 6, 3) := by decide +kernel
theorem dX6_best_99 : decode cX6_best 99 = .ok (.bipush (-9), 2) := by decide +kernel
theorem dX6_best_101 : decode cX6_best 101 = .ok (.ireturn, 1) := by decide +kernel
theorem dX6_best_102 : decode cX6_best 102 = .ok (.iload_n 2, 1) := by decide +kernel
theorem dX6_best_103 : decode cX6_best 103 = .ok (.ifCond .ge 13, 3) := by decide +kernel
theorem dX6_best_106 : decode cX6_best 106 = .ok (.aload_n 0, 1) := by decide +kernel
theorem dX6_best_107 : decode cX6_best 107 = .ok (.getfield 39, 3) := by decide +kernel
theorem dX6_best_110 : decode cX6_best 110 = .ok (.getfield 180, 3) := by decide +kernel
theorem dX6_best_113 : decode cX6_best 113 = .ok (.goto 14, 3) := by decide +kernel
theorem dX6_best_116 : decode cX6_best 116 = .ok (.aload_n 0, 1) := by decide +kernel
theorem dX6_best_117 : decode cX6_best 117 = .ok (.getfield 39, 3) := by decide +kernel
theorem dX6_best_120 : decode cX6_best 120 = .ok (.getfield 183, 3) := by decide +kernel
theorem dX6_best_123 : decode cX6_best 123 = .ok (.iload_n 2, 1) := by decide +kernel
theorem dX6_best_124 : decode cX6_best 124 = .ok (.invokestatic 91, 3) := by decide +kernel
theorem dX6_best_127 : decode cX6_best 127 = .ok (.ireturn, 1) := by decide +kernel
theorem dX6_bestPump_0 : decode cX6_bestPump 0 = .ok (.aload_n 0, 1) := by decide +kernel
theorem dX6_bestPump_1 : decode cX6_bestPump 1 = .ok (.getfield 19, 3) := by decide +kernel
theorem dX6_bestPump_4 : decode cX6_bestPump 4 = .ok (.aload_n 0, 1) := by decide +kernel
theorem dX6_bestPump_5 : decode cX6_bestPump 5 = .ok (.getfield 10, 3) := by decide +kernel
theorem dX6_bestPump_8 : decode cX6_bestPump 8 = .ok (.invokevirtual 76, 3) := by decide +kernel
theorem dX6_bestPump_11 : decode cX6_bestPump 11 = .ok (.iconst 0, 1) := by decide +kernel
theorem dX6_bestPump_12 : decode cX6_bestPump 12 = .ok (.istore_n 1, 1) := by decide +kernel
theorem dX6_bestPump_13 : decode cX6_bestPump 13 = .ok (.ldc 188, 2) := by decide +kernel
theorem dX6_bestPump_15 : decode cX6_bestPump 15 = .ok (.istore_n 2, 1) := by decide +kernel
theorem dX6_bestPump_16 : decode cX6_bestPump 16 = .ok (.iconst 0, 1) := by decide +kernel
theorem dX6_bestPump_17 : decode cX6_bestPump 17 = .ok (.istore_n 3, 1) := by decide +kernel
theorem dX6_bestPump_18 : decode cX6_bestPump 18 = .ok (.iload_n 3, 1) := by decide +kernel
theorem dX6_bestPump_19 : decode cX6_bestPump 19 = .ok (.bipush 40, 2) := by decide +kernel
theorem dX6_bestPump_21 : decode cX6_bestPump 21 = .ok (.if_icmp .ge 43, 3) := by decide +kernel
theorem dX6_bestPump_24 : decode cX6_bestPump 24 = .ok (.aload_n 0, 1) := by decide +kernel
theorem dX6_bestPump_25 : decode cX6_bestPump 25 = .ok (.getfield 19, 3) := by decide +kernel
theorem dX6_bestPump_28 : decode cX6_bestPump 28 = .ok (.iconst 0, 1) := by decide +kernel
theorem dX6_bestPump_29 : decode cX6_bestPump 29 = .ok (.iload_n 3, 1) := by decide +kernel
theorem dX6_bestPump_30 : decode cX6_bestPump 30 = .ok (.invokevirtual 122, 3) := by decide +kernel
theorem dX6_bestPump_33 : decode cX6_bestPump 33 = .ok (.pop, 1) := by decide +kernel
theorem dX6_bestPump_34 : decode cX6_bestPump 34 = .ok (.aload_n 0, 1) := by decide +kernel
theorem dX6_bestPump_35 : decode cX6_bestPump 35 = .ok (.getfield 32, 3) := by decide +kernel
theorem dX6_bestPump_38 : decode cX6_bestPump 38 = .ok (.aload_n 0, 1) := by decide +kernel
theorem dX6_bestPump_39 : decode cX6_bestPump 39 = .ok (.getfield 19, 3) := by decide +kernel
theorem dX6_bestPump_42 : decode cX6_bestPump 42 = .ok (.invokevirtual 126, 3) := by decide +kernel
theorem dX6_bestPump_45 : decode cX6_bestPump 45 = .ok (.istore 4, 2) := by decide +kernel
theorem dX6_bestPump_47 : decode cX6_bestPump 47 = .ok (.iload 4, 2) := by decide +kernel
theorem dX6_bestPump_49 : decode cX6_bestPump 49 = .ok (.iload_n 2, 1) := by decide +kernel
theorem dX6_bestPump_50 : decode cX6_bestPump 50 = .ok (.if_icmp .ge 8, 3) := by decide +kernel
theorem dX6_bestPump_53 : decode cX6_bestPump 53 = .ok (.iload 4, 2) := by decide +kernel
theorem dX6_bestPump_55 : decode cX6_bestPump 55 = .ok (.istore_n 2, 1) := by decide +kernel
theorem dX6_bestPump_56 : decode cX6_bestPump 56 = .ok (.iload_n 3, 1) := by decide +kernel
theorem dX6_bestPump_57 : decode cX6_bestPump 57 = .ok (.istore_n 1, 1) := by decide +kernel
theorem dX6_bestPump_58 : decode cX6_bestPump 58 = .ok (.iinc 3 1, 3) := by decide +kernel
theorem dX6_bestPump_61 : decode cX6_bestPump 61 = .ok (.goto (-43), 3) := by decide +kernel
theorem dX6_bestPump_64 : decode cX6_bestPump 64 = .ok (.iload_n 1, 1) := by decide +kernel
theorem dX6_bestPump_65 : decode cX6_bestPump 65 = .ok (.ireturn, 1) := by decide +kernel
theorem dX6_bestHour_0 : decode cX6_bestHour 0 = .ok (.aload_n 0, 1) := by decide +kernel
theorem dX6_bestHour_1 : decode cX6_bestHour 1 = .ok (.getfield 10, 3) := by decide +kernel
theorem dX6_bestHour_4 : decode cX6_bestHour 4 = .ok (.iload_n 1, 1) := by decide +kernel
theorem dX6_bestHour_5 : decode cX6_bestHour 5 = .ok (.invokevirtual 84, 3) := by decide +kernel
theorem dX6_bestHour_8 : decode cX6_bestHour 8 = .ok (.ifCond .ne 9, 3) := by decide +kernel
theorem dX6_bestHour_11 : decode cX6_bestHour 11 = .ok (.aload_n 0, 1) := by decide +kernel
theorem dX6_bestHour_12 : decode cX6_bestHour 12 = .ok (.iconst (-1), 1) := by decide +kernel
theorem dX6_bestHour_13 : decode cX6_bestHour 13 = .ok (.invokevirtual 65, 3) := by decide +kernel
theorem dX6_bestHour_16 : decode cX6_bestHour 16 = .ok (.ireturn, 1) := by decide +kernel
theorem dX6_bestHour_17 : decode cX6_bestHour 17 = .ok (.aload_n 0, 1) := by decide +kernel
theorem dX6_bestHour_18 : decode cX6_bestHour 18 = .ok (.getfield 19, 3) := by decide +kernel
theorem dX6_bestHour_21 : decode cX6_bestHour 21 = .ok (.aload_n 0, 1) := by decide +kernel
theorem dX6_bestHour_22 : decode cX6_bestHour 22 = .ok (.getfield 10, 3) := by decide +kernel
end
section
theorem dX6_bestHour_25 : decode cX6_bestHour 25 = .ok (.invokevirtual 76, 3) := by decide +kernel
theorem dX6_bestHour_28 : decode cX6_bestHour 28 = .ok (.iconst 0, 1) := by decide +kernel
theorem dX6_bestHour_29 : decode cX6_bestHour 29 = .ok (.istore_n 2, 1) := by decide +kernel
theorem dX6_bestHour_30 : decode cX6_bestHour 30 = .ok (.ldc 188, 2) := by decide +kernel
theorem dX6_bestHour_32 : decode cX6_bestHour 32 = .ok (.istore_n 3, 1) := by decide +kernel
theorem dX6_bestHour_33 : decode cX6_bestHour 33 = .ok (.iconst 0, 1) := by decide +kernel
theorem dX6_bestHour_34 : decode cX6_bestHour 34 = .ok (.istore 4, 2) := by decide +kernel
theorem dX6_bestHour_36 : decode cX6_bestHour 36 = .ok (.iload 4, 2) := by decide +kernel
theorem dX6_bestHour_38 : decode cX6_bestHour 38 = .ok (.bipush 12, 2) := by decide +kernel
theorem dX6_bestHour_40 : decode cX6_bestHour 40 = .ok (.if_icmp .ge 47, 3) := by decide +kernel
theorem dX6_bestHour_43 : decode cX6_bestHour 43 = .ok (.aload_n 0, 1) := by decide +kernel
theorem dX6_bestHour_44 : decode cX6_bestHour 44 = .ok (.getfield 19, 3) := by decide +kernel
theorem dX6_bestHour_47 : decode cX6_bestHour 47 = .ok (.getfield 106, 3) := by decide +kernel
theorem dX6_bestHour_50 : decode cX6_bestHour 50 = .ok (.iload_n 1, 1) := by decide +kernel
theorem dX6_bestHour_51 : decode cX6_bestHour 51 = .ok (.iload 4, 2) := by decide +kernel
theorem dX6_bestHour_53 : decode cX6_bestHour 53 = .ok (.invokestatic 115, 3) := by decide +kernel
theorem dX6_bestHour_56 : decode cX6_bestHour 56 = .ok (.aload_n 0, 1) := by decide +kernel
theorem dX6_bestHour_57 : decode cX6_bestHour 57 = .ok (.getfield 32, 3) := by decide +kernel
theorem dX6_bestHour_60 : decode cX6_bestHour 60 = .ok (.aload_n 0, 1) := by decide +kernel
theorem dX6_bestHour_61 : decode cX6_bestHour 61 = .ok (.getfield 19, 3) := by decide +kernel
theorem dX6_bestHour_64 : decode cX6_bestHour 64 = .ok (.invokevirtual 126, 3) := by decide +kernel
theorem dX6_bestHour_67 : decode cX6_bestHour 67 = .ok (.istore 5, 2) := by decide +kernel
theorem dX6_bestHour_69 : decode cX6_bestHour 69 = .ok (.iload 5, 2) := by decide +kernel
theorem dX6_bestHour_71 : decode cX6_bestHour 71 = .ok (.iload_n 3, 1) := by decide +kernel
theorem dX6_bestHour_72 : decode cX6_bestHour 72 = .ok (.if_icmp .ge 9, 3) := by decide +kernel
theorem dX6_bestHour_75 : decode cX6_bestHour 75 = .ok (.iload 5, 2) := by decide +kernel
theorem dX6_bestHour_77 : decode cX6_bestHour 77 = .ok (.istore_n 3, 1) := by decide +kernel
theorem dX6_bestHour_78 : decode cX6_bestHour 78 = .ok (.iload 4, 2) := by decide +kernel
theorem dX6_bestHour_80 : decode cX6_bestHour 80 = .ok (.istore_n 2, 1) := by decide +kernel
theorem dX6_bestHour_81 : decode cX6_bestHour 81 = .ok (.iinc 4 1, 3) := by decide +kernel
theorem dX6_bestHour_84 : decode cX6_bestHour 84 = .ok (.goto (-48), 3) := by decide +kernel
theorem dX6_bestHour_87 : decode cX6_bestHour 87 = .ok (.iload_n 2, 1) := by decide +kernel
theorem dX6_bestHour_88 : decode cX6_bestHour 88 = .ok (.ireturn, 1) := by decide +kernel
theorem dX6_without_0 : decode cX6_without 0 = .ok (.aload_n 0, 1) := by decide +kernel
theorem dX6_without_1 : decode cX6_without 1 = .ok (.getfield 10, 3) := by decide +kernel
theorem dX6_without_4 : decode cX6_without 4 = .ok (.iload_n 1, 1) := by decide +kernel
theorem dX6_without_5 : decode cX6_without 5 = .ok (.invokevirtual 84, 3) := by decide +kernel
theorem dX6_without_8 : decode cX6_without 8 = .ok (.ifCond .ne 9, 3) := by decide +kernel
theorem dX6_without_11 : decode cX6_without 11 = .ok (.aload_n 0, 1) := by decide +kernel
theorem dX6_without_12 : decode cX6_without 12 = .ok (.iconst (-1), 1) := by decide +kernel
theorem dX6_without_13 : decode cX6_without 13 = .ok (.invokevirtual 189, 3) := by decide +kernel
theorem dX6_without_16 : decode cX6_without 16 = .ok (.ireturn, 1) := by decide +kernel
theorem dX6_without_17 : decode cX6_without 17 = .ok (.aload_n 0, 1) := by decide +kernel
theorem dX6_without_18 : decode cX6_without 18 = .ok (.getfield 19, 3) := by decide +kernel
theorem dX6_without_21 : decode cX6_without 21 = .ok (.aload_n 0, 1) := by decide +kernel
theorem dX6_without_22 : decode cX6_without 22 = .ok (.getfield 10, 3) := by decide +kernel
theorem dX6_without_25 : decode cX6_without 25 = .ok (.invokevirtual 76, 3) := by decide +kernel
theorem dX6_without_28 : decode cX6_without 28 = .ok (.aload_n 0, 1) := by decide +kernel
theorem dX6_without_29 : decode cX6_without 29 = .ok (.getfield 19, 3) := by decide +kernel
theorem dX6_without_32 : decode cX6_without 32 = .ok (.iload_n 1, 1) := by decide +kernel
theorem dX6_without_33 : decode cX6_without 33 = .ok (.invokevirtual 192, 3) := by decide +kernel
theorem dX6_without_36 : decode cX6_without 36 = .ok (.aload_n 0, 1) := by decide +kernel
theorem dX6_without_37 : decode cX6_without 37 = .ok (.getfield 32, 3) := by decide +kernel
theorem dX6_without_40 : decode cX6_without 40 = .ok (.aload_n 0, 1) := by decide +kernel
theorem dX6_without_41 : decode cX6_without 41 = .ok (.getfield 10, 3) := by decide +kernel
theorem dX6_without_44 : decode cX6_without 44 = .ok (.invokevirtual 126, 3) := by decide +kernel
theorem dX6_without_47 : decode cX6_without 47 = .ok (.aload_n 0, 1) := by decide +kernel
theorem dX6_without_48 : decode cX6_without 48 = .ok (.getfield 32, 3) := by decide +kernel
theorem dX6_without_51 : decode cX6_without 51 = .ok (.aload_n 0, 1) := by decide +kernel
theorem dX6_without_52 : decode cX6_without 52 = .ok (.getfield 19, 3) := by decide +kernel
theorem dX6_without_55 : decode cX6_without 55 = .ok (.invokevirtual 126, 3) := by decide +kernel
theorem dX6_without_58 : decode cX6_without 58 = .ok (.isub, 1) := by decide +kernel
theorem dX6_without_59 : decode cX6_without 59 = .ok (.ireturn, 1) := by decide +kernel
theorem dX6_second_0 : decode cX6_second 0 = .ok (.iload_n 1, 1) := by decide +kernel
theorem dX6_second_1 : decode cX6_second 1 = .ok (.invokestatic 195, 3) := by decide +kernel
theorem dX6_second_4 : decode cX6_second 4 = .ok (.ifCond .ne 9, 3) := by decide +kernel
theorem dX6_second_7 : decode cX6_second 7 = .ok (.aload_n 0, 1) := by decide +kernel
theorem dX6_second_8 : decode cX6_second 8 = .ok (.iconst (-1), 1) := by decide +kernel
theorem dX6_second_9 : decode cX6_second 9 = .ok (.invokevirtual 189, 3) := by decide +kernel
theorem dX6_second_12 : decode cX6_second 12 = .ok (.ireturn, 1) := by decide +kernel
theorem dX6_second_13 : decode cX6_second 13 = .ok (.aload_n 0, 1) := by decide +kernel
theorem dX6_second_14 : decode cX6_second 14 = .ok (.getfield 19, 3) := by decide +kernel
theorem dX6_second_17 : decode cX6_second 17 = .ok (.aload_n 0, 1) := by decide +kernel
theorem dX6_second_18 : decode cX6_second 18 = .ok (.getfield 10, 3) := by decide +kernel
theorem dX6_second_21 : decode cX6_second 21 = .ok (.invokevirtual 76, 3) := by decide +kernel
theorem dX6_second_24 : decode cX6_second 24 = .ok (.aload_n 0, 1) := by decide +kernel
theorem dX6_second_25 : decode cX6_second 25 = .ok (.getfield 19, 3) := by decide +kernel
theorem dX6_second_28 : decode cX6_second 28 = .ok (.iload_n 1, 1) := by decide +kernel
theorem dX6_second_29 : decode cX6_second 29 = .ok (.putfield 198, 3) := by decide +kernel
theorem dX6_second_32 : decode cX6_second 32 = .ok (.aload_n 0, 1) := by decide +kernel
theorem dX6_second_33 : decode cX6_second 33 = .ok (.getfield 32, 3) := by decide +kernel
theorem dX6_second_36 : decode cX6_second 36 = .ok (.aload_n 0, 1) := by decide +kernel
theorem dX6_second_37 : decode cX6_second 37 = .ok (.getfield 10, 3) := by decide +kernel
theorem dX6_second_40 : decode cX6_second 40 = .ok (.invokevirtual 126, 3) := by decide +kernel
theorem dX6_second_43 : decode cX6_second 43 = .ok (.aload_n 0, 1) := by decide +kernel
theorem dX6_second_44 : decode cX6_second 44 = .ok (.getfield 32, 3) := by decide +kernel
theorem dX6_second_47 : decode cX6_second 47 = .ok (.aload_n 0, 1) := by decide +kernel
theorem dX6_second_48 : decode cX6_second 48 = .ok (.getfield 19, 3) := by decide +kernel
theorem dX6_second_51 : decode cX6_second 51 = .ok (.invokevirtual 126, 3) := by decide +kernel
theorem dX6_second_54 : decode cX6_second 54 = .ok (.isub, 1) := by decide +kernel
theorem dX6_second_55 : decode cX6_second 55 = .ok (.ireturn, 1) := by decide +kernel
theorem dX6_bestSecond_0 : decode cX6_bestSecond 0 = .ok (.aload_n 0, 1) := by decide +kernel
theorem dX6_bestSecond_1 : decode cX6_bestSecond 1 = .ok (.getfield 19, 3) := by decide +kernel
theorem dX6_bestSecond_4 : decode cX6_bestSecond 4 = .ok (.aload_n 0, 1) := by decide +kernel
theorem dX6_bestSecond_5 : decode cX6_bestSecond 5 = .ok (.getfield 10, 3) := by decide +kernel
theorem dX6_bestSecond_8 : decode cX6_bestSecond 8 = .ok (.invokevirtual 76, 3) := by decide +kernel
theorem dX6_bestSecond_11 : decode cX6_bestSecond 11 = .ok (.iconst 0, 1) := by decide +kernel
theorem dX6_bestSecond_12 : decode cX6_bestSecond 12 = .ok (.istore_n 1, 1) := by decide +kernel
theorem dX6_bestSecond_13 : decode cX6_bestSecond 13 = .ok (.ldc 188, 2) := by decide +kernel
theorem dX6_bestSecond_15 : decode cX6_bestSecond 15 = .ok (.istore_n 2, 1) := by decide +kernel
theorem dX6_bestSecond_16 : decode cX6_bestSecond 16 = .ok (.iconst 0, 1) := by decide +kernel
theorem dX6_bestSecond_17 : decode cX6_bestSecond 17 = .ok (.istore_n 3, 1) := by decide +kernel
theorem dX6_bestSecond_18 : decode cX6_bestSecond 18 = .ok (.iload_n 3, 1) := by decide +kernel
theorem dX6_bestSecond_19 : decode cX6_bestSecond 19 = .ok (.bipush 40, 2) := by decide +kernel
theorem dX6_bestSecond_21 : decode cX6_bestSecond 21 = .ok (.if_icmp .ge 41, 3) := by decide +kernel
theorem dX6_bestSecond_24 : decode cX6_bestSecond 24 = .ok (.aload_n 0, 1) := by decide +kernel
theorem dX6_bestSecond_25 : decode cX6_bestSecond 25 = .ok (.getfield 19, 3) := by decide +kernel
theorem dX6_bestSecond_28 : decode cX6_bestSecond 28 = .ok (.iload_n 3, 1) := by decide +kernel
theorem dX6_bestSecond_29 : decode cX6_bestSecond 29 = .ok (.putfield 198, 3) := by decide +kernel
theorem dX6_bestSecond_32 : decode cX6_bestSecond 32 = .ok (.aload_n 0, 1) := by decide +kernel
theorem dX6_bestSecond_33 : decode cX6_bestSecond 33 = .ok (.getfield 32, 3) := by decide +kernel
theorem dX6_bestSecond_36 : decode cX6_bestSecond 36 = .ok (.aload_n 0, 1) := by decide +kernel
theorem dX6_bestSecond_37 : decode cX6_bestSecond 37 = .ok (.getfield 19, 3) := by decide +kernel
theorem dX6_bestSecond_40 : decode cX6_bestSecond 40 = .ok (.invokevirtual 126, 3) := by decide +kernel
theorem dX6_bestSecond_43 : decode cX6_bestSecond 43 = .ok (.istore 4, 2) := by decide +kernel
theorem dX6_bestSecond_45 : decode cX6_bestSecond 45 = .ok (.iload 4, 2) := by decide +kernel
theorem dX6_bestSecond_47 : decode cX6_bestSecond 47 = .ok (.iload_n 2, 1) := by decide +kernel
theorem dX6_bestSecond_48 : decode cX6_bestSecond 48 = .ok (.if_icmp .ge 8, 3) := by decide +kernel
theorem dX6_bestSecond_51 : decode cX6_bestSecond 51 = .ok (.iload 4, 2) := by decide +kernel
theorem dX6_bestSecond_53 : decode cX6_bestSecond 53 = .ok (.istore_n 2, 1) := by decide +kernel
theorem dX6_bestSecond_54 : decode cX6_bestSecond 54 = .ok (.iload_n 3, 1) := by decide +kernel
theorem dX6_bestSecond_55 : decode cX6_bestSecond 55 = .ok (.istore_n 1, 1) := by decide +kernel
theorem dX6_bestSecond_56 : decode cX6_bestSecond 56 = .ok (.iinc 3 1, 3) := by decide +kernel
theorem dX6_bestSecond_59 : decode cX6_bestSecond 59 = .ok (.goto (-41), 3) := by decide +kernel
theorem dX6_bestSecond_62 : decode cX6_bestSecond 62 = .ok (.iload_n 1, 1) := by decide +kernel
theorem dX6_bestSecond_63 : decode cX6_bestSecond 63 = .ok (.ireturn, 1) := by decide +kernel
theorem dX6_net_0 : decode cX6_net 0 = .ok (.aload_n 0, 1) := by decide +kernel
theorem dX6_net_1 : decode cX6_net 1 = .ok (.getfield 10, 3) := by decide +kernel
theorem dX6_net_4 : decode cX6_net 4 = .ok (.iload_n 1, 1) := by decide +kernel
theorem dX6_net_5 : decode cX6_net 5 = .ok (.invokevirtual 84, 3) := by decide +kernel
theorem dX6_net_8 : decode cX6_net 8 = .ok (.ifCond .ne 9, 3) := by decide +kernel
theorem dX6_net_11 : decode cX6_net 11 = .ok (.aload_n 0, 1) := by decide +kernel
theorem dX6_net_12 : decode cX6_net 12 = .ok (.iconst (-1), 1) := by decide +kernel
theorem dX6_net_13 : decode cX6_net 13 = .ok (.invokevirtual 189, 3) := by decide +kernel
theorem dX6_net_16 : decode cX6_net 16 = .ok (.ireturn, 1) := by decide +kernel
theorem dX6_net_17 : decode cX6_net 17 = .ok (.aload_n 0, 1) := by decide +kernel
theorem dX6_net_18 : decode cX6_net 18 = .ok (.getfield 32, 3) := by decide +kernel
theorem dX6_net_21 : decode cX6_net 21 = .ok (.aload_n 0, 1) := by decide +kernel
theorem dX6_net_22 : decode cX6_net 22 = .ok (.getfield 10, 3) := by decide +kernel
theorem dX6_net_25 : decode cX6_net 25 = .ok (.invokevirtual 126, 3) := by decide +kernel
theorem dX6_net_28 : decode cX6_net 28 = .ok (.pop, 1) := by decide +kernel
theorem dX6_net_29 : decode cX6_net 29 = .ok (.aload_n 0, 1) := by decide +kernel
theorem dX6_net_30 : decode cX6_net 30 = .ok (.getfield 46, 3) := by decide +kernel
theorem dX6_net_33 : decode cX6_net 33 = .ok (.aload_n 0, 1) := by decide +kernel
theorem dX6_net_34 : decode cX6_net 34 = .ok (.getfield 10, 3) := by decide +kernel
theorem dX6_net_37 : decode cX6_net 37 = .ok (.aload_n 0, 1) := by decide +kernel
theorem dX6_net_38 : decode cX6_net 38 = .ok (.getfield 32, 3) := by decide +kernel
theorem dX6_net_41 : decode cX6_net 41 = .ok (.invokevirtual 201, 3) := by decide +kernel
theorem dX6_net_44 : decode cX6_net 44 = .ok (.aload_n 0, 1) := by decide +kernel
theorem dX6_net_45 : decode cX6_net 45 = .ok (.getfield 46, 3) := by decide +kernel
theorem dX6_net_48 : decode cX6_net 48 = .ok (.getfield 205, 3) := by decide +kernel
theorem dX6_net_51 : decode cX6_net 51 = .ok (.iload_n 1, 1) := by decide +kernel
theorem dX6_net_52 : decode cX6_net 52 = .ok (.invokestatic 91, 3) := by decide +kernel
theorem dX6_net_55 : decode cX6_net 55 = .ok (.ireturn, 1) := by decide +kernel
theorem dX6_payments_0 : decode cX6_payments 0 = .ok (.aload_n 0, 1) := by decide +kernel
theorem dX6_payments_1 : decode cX6_payments 1 = .ok (.getfield 32, 3) := by decide +kernel
theorem dX6_payments_4 : decode cX6_payments 4 = .ok (.aload_n 0, 1) := by decide +kernel
theorem dX6_payments_5 : decode cX6_payments 5 = .ok (.getfield 10, 3) := by decide +kernel
theorem dX6_payments_8 : decode cX6_payments 8 = .ok (.invokevirtual 126, 3) := by decide +kernel
theorem dX6_payments_11 : decode cX6_payments 11 = .ok (.pop, 1) := by decide +kernel
theorem dX6_payments_12 : decode cX6_payments 12 = .ok (.aload_n 0, 1) := by decide +kernel
theorem dX6_payments_13 : decode cX6_payments 13 = .ok (.getfield 46, 3) := by decide +kernel
theorem dX6_payments_16 : decode cX6_payments 16 = .ok (.aload_n 0, 1) := by decide +kernel
theorem dX6_payments_17 : decode cX6_payments 17 = .ok (.getfield 10, 3) := by decide +kernel
theorem dX6_payments_20 : decode cX6_payments 20 = .ok (.aload_n 0, 1) := by decide +kernel
theorem dX6_payments_21 : decode cX6_payments 21 = .ok (.getfield 32, 3) := by decide +kernel
theorem dX6_payments_24 : decode cX6_payments 24 = .ok (.invokevirtual 201, 3) := by decide +kernel
theorem dX6_payments_27 : decode cX6_payments 27 = .ok (.aload_n 0, 1) := by decide +kernel
theorem dX6_payments_28 : decode cX6_payments 28 = .ok (.getfield 46, 3) := by decide +kernel
theorem dX6_payments_31 : decode cX6_payments 31 = .ok (.aload_n 0, 1) := by decide +kernel
theorem dX6_payments_32 : decode cX6_payments 32 = .ok (.getfield 10, 3) := by decide +kernel
theorem dX6_payments_35 : decode cX6_payments 35 = .ok (.getfield 172, 3) := by decide +kernel
theorem dX6_payments_38 : decode cX6_payments 38 = .ok (.invokevirtual 208, 3) := by decide +kernel
theorem dX6_payments_41 : decode cX6_payments 41 = .ok (.ireturn, 1) := by decide +kernel
theorem dX6_near_0 : decode cX6_near 0 = .ok (.iload_n 1, 1) := by decide +kernel
theorem dX6_near_1 : decode cX6_near 1 = .ok (.invokestatic 166, 3) := by decide +kernel
theorem dX6_near_4 : decode cX6_near 4 = .ok (.istore_n 3, 1) := by decide +kernel
theorem dX6_near_5 : decode cX6_near 5 = .ok (.iload_n 3, 1) := by decide +kernel
theorem dX6_near_6 : decode cX6_near 6 = .ok (.ifCond .eq 9, 3) := by decide +kernel
theorem dX6_near_9 : decode cX6_near 9 = .ok (.aload_n 0, 1) := by decide +kernel
theorem dX6_near_10 : decode cX6_near 10 = .ok (.iload_n 3, 1) := by decide +kernel
theorem dX6_near_11 : decode cX6_near 11 = .ok (.invokevirtual 65, 3) := by decide +kernel
theorem dX6_near_14 : decode cX6_near 14 = .ok (.ireturn, 1) := by decide +kernel
theorem dX6_near_15 : decode cX6_near 15 = .ok (.iload_n 2, 1) := by decide +kernel
theorem dX6_near_16 : decode cX6_near 16 = .ok (.invokestatic 195, 3) := by decide +kernel
theorem dX6_near_19 : decode cX6_near 19 = .ok (.ifCond .ne 9, 3) := by decide +kernel
theorem dX6_near_22 : decode cX6_near 22 = .ok (.aload_n 0, 1) := by decide +kernel
theorem dX6_near_23 : decode cX6_near 23 = .ok (.iconst (-1), 1) := by decide +kernel
theorem dX6_near_24 : decode cX6_near 24 = .ok (.invokevirtual 65, 3) := by decide +kernel
theorem dX6_near_27 : decode cX6_near 27 = .ok (.ireturn, 1) := by decide +kernel
theorem dX6_near_28 : decode cX6_near 28 = .ok (.aload_n 0, 1) := by decide +kernel
theorem dX6_near_29 : decode cX6_near 29 = .ok (.getfield 32, 3) := by decide +kernel
theorem dX6_near_32 : decode cX6_near 32 = .ok (.aload_n 0, 1) := by decide +kernel
theorem dX6_near_33 : decode cX6_near 33 = .ok (.getfield 10, 3) := by decide +kernel
theorem dX6_near_36 : decode cX6_near 36 = .ok (.invokevirtual 126, 3) := by decide +kernel
theorem dX6_near_39 : decode cX6_near 39 = .ok (.pop, 1) := by decide +kernel
theorem dX6_near_40 : decode cX6_near 40 = .ok (.aload_n 0, 1) := by decide +kernel
theorem dX6_near_41 : decode cX6_near 41 = .ok (.getfield 32, 3) := by decide +kernel
theorem dX6_near_44 : decode cX6_near 44 = .ok (.getfield 169, 3) := by decide +kernel
theorem dX6_near_47 : decode cX6_near 47 = .ok (.iload_n 1, 1) := by decide +kernel
theorem dX6_near_48 : decode cX6_near 48 = .ok (.invokestatic 91, 3) := by decide +kernel
theorem dX6_near_51 : decode cX6_near 51 = .ok (.iload_n 2, 1) := by decide +kernel
theorem dX6_near_52 : decode cX6_near 52 = .ok (.isub, 1) := by decide +kernel
theorem dX6_near_53 : decode cX6_near 53 = .ok (.invokestatic 211, 3) := by decide +kernel
theorem dX6_near_56 : decode cX6_near 56 = .ok (.ireturn, 1) := by decide +kernel
theorem dX6_midwife_0 : decode cX6_midwife 0 = .ok (.iload_n 1, 1) := by decide +kernel
theorem dX6_midwife_1 : decode cX6_midwife 1 = .ok (.invokestatic 195, 3) := by decide +kernel
theorem dX6_midwife_4 : decode cX6_midwife 4 = .ok (.ifCond .ne 9, 3) := by decide +kernel
theorem dX6_midwife_7 : decode cX6_midwife 7 = .ok (.aload_n 0, 1) := by decide +kernel
theorem dX6_midwife_8 : decode cX6_midwife 8 = .ok (.iconst (-1), 1) := by decide +kernel
theorem dX6_midwife_9 : decode cX6_midwife 9 = .ok (.invokevirtual 65, 3) := by decide +kernel
theorem dX6_midwife_12 : decode cX6_midwife 12 = .ok (.ireturn, 1) := by decide +kernel
theorem dX6_midwife_13 : decode cX6_midwife 13 = .ok (.aload_n 0, 1) := by decide +kernel
theorem dX6_midwife_14 : decode cX6_midwife 14 = .ok (.getfield 32, 3) := by decide +kernel
theorem dX6_midwife_17 : decode cX6_midwife 17 = .ok (.aload_n 0, 1) := by decide +kernel
theorem dX6_midwife_18 : decode cX6_midwife 18 = .ok (.getfield 10, 3) := by decide +kernel
theorem dX6_midwife_21 : decode cX6_midwife 21 = .ok (.invokevirtual 126, 3) := by decide +kernel
theorem dX6_midwife_24 : decode cX6_midwife 24 = .ok (.pop, 1) := by decide +kernel
theorem dX6_midwife_25 : decode cX6_midwife 25 = .ok (.iconst (-1), 1) := by decide +kernel
theorem dX6_midwife_26 : decode cX6_midwife 26 = .ok (.istore_n 2, 1) := by decide +kernel
theorem dX6_midwife_27 : decode cX6_midwife 27 = .ok (.iconst 0, 1) := by decide +kernel
theorem dX6_midwife_28 : decode cX6_midwife 28 = .ok (.istore_n 3, 1) := by decide +kernel
theorem dX6_midwife_29 : decode cX6_midwife 29 = .ok (.iconst 0, 1) := by decide +kernel
theorem dX6_midwife_30 : decode cX6_midwife 30 = .ok (.istore 4, 2) := by decide +kernel
theorem dX6_midwife_32 : decode cX6_midwife 32 = .ok (.iload 4, 2) := by decide +kernel
theorem dX6_midwife_34 : decode cX6_midwife 34 = .ok (.bipush 12, 2) := by decide +kernel
theorem dX6_midwife_36 : decode cX6_midwife 36 = .ok (.if_icmp .ge 40, 3) := by decide +kernel
theorem dX6_midwife_39 : decode cX6_midwife 39 = .ok (.aload_n 0, 1) := by decide +kernel
theorem dX6_midwife_40 : decode cX6_midwife 40 = .ok (.getfield 32, 3) := by decide +kernel
theorem dX6_midwife_43 : decode cX6_midwife 43 = .ok (.getfield 169, 3) := by decide +kernel
theorem dX6_midwife_46 : decode cX6_midwife 46 = .ok (.iload 4, 2) := by decide +kernel
theorem dX6_midwife_48 : decode cX6_midwife 48 = .ok (.invokestatic 91, 3) := by decide +kernel
theorem dX6_midwife_51 : decode cX6_midwife 51 = .ok (.iload_n 1, 1) := by decide +kernel
theorem dX6_midwife_52 : decode cX6_midwife 52 = .ok (.isub, 1) := by decide +kernel
theorem dX6_midwife_53 : decode cX6_midwife 53 = .ok (.invokestatic 211, 3) := by decide +kernel
theorem dX6_midwife_56 : decode cX6_midwife 56 = .ok (.istore 5, 2) := by decide +kernel
theorem dX6_midwife_58 : decode cX6_midwife 58 = .ok (.iload 5, 2) := by decide +kernel
theorem dX6_midwife_60 : decode cX6_midwife 60 = .ok (.iload_n 2, 1) := by decide +kernel
theorem dX6_midwife_61 : decode cX6_midwife 61 = .ok (.if_icmp .le 9, 3) := by decide +kernel
theorem dX6_midwife_64 : decode cX6_midwife 64 = .ok (.iload 5, 2) := by decide +kernel
theorem dX6_midwife_66 : decode cX6_midwife 66 = .ok (.istore_n 2, 1) := by decide +kernel
theorem dX6_midwife_67 : decode cX6_midwife 67 = .ok (.iload 4, 2) := by decide +kernel
theorem dX6_midwife_69 : decode cX6_midwife 69 = .ok (.istore_n 3, 1) := by decide +kernel
theorem dX6_midwife_70 : decode cX6_midwife 70 = .ok (.iinc 4 1, 3) := by decide +kernel
theorem dX6_midwife_73 : decode cX6_midwife 73 = .ok (.goto (-41), 3) := by decide +kernel
theorem dX6_midwife_76 : decode cX6_midwife 76 = .ok (.iload_n 3, 1) := by decide +kernel
theorem dX6_midwife_77 : decode cX6_midwife 77 = .ok (.ireturn, 1) := by decide +kernel
theorem dX6_watch_0 : decode cX6_watch 0 = .ok (.aload_n 0, 1) := by decide +kernel
theorem dX6_watch_1 : decode cX6_watch 1 = .ok (.getfield 32, 3) := by decide +kernel
theorem dX6_watch_4 : decode cX6_watch 4 = .ok (.aload_n 0, 1) := by decide +kernel
theorem dX6_watch_5 : decode cX6_watch 5 = .ok (.getfield 10, 3) := by decide +kernel
theorem dX6_watch_8 : decode cX6_watch 8 = .ok (.invokevirtual 126, 3) := by decide +kernel
theorem dX6_watch_11 : decode cX6_watch 11 = .ok (.pop, 1) := by decide +kernel
theorem dX6_watch_12 : decode cX6_watch 12 = .ok (.iconst 0, 1) := by decide +kernel
theorem dX6_watch_13 : decode cX6_watch 13 = .ok (.istore_n 1, 1) := by decide +kernel
theorem dX6_watch_14 : decode cX6_watch 14 = .ok (.iconst 0, 1) := by decide +kernel
theorem dX6_watch_15 : decode cX6_watch 15 = .ok (.istore_n 2, 1) := by decide +kernel
theorem dX6_watch_16 : decode cX6_watch 16 = .ok (.iload_n 2, 1) := by decide +kernel
theorem dX6_watch_17 : decode cX6_watch 17 = .ok (.bipush 12, 2) := by decide +kernel
theorem dX6_watch_19 : decode cX6_watch 19 = .ok (.if_icmp .ge 37, 3) := by decide +kernel
theorem dX6_watch_22 : decode cX6_watch 22 = .ok (.aload_n 0, 1) := by decide +kernel
theorem dX6_watch_23 : decode cX6_watch 23 = .ok (.getfield 10, 3) := by decide +kernel
theorem dX6_watch_26 : decode cX6_watch 26 = .ok (.iconst 3, 1) := by decide +kernel
theorem dX6_watch_27 : decode cX6_watch 27 = .ok (.aload_n 0, 1) := by decide +kernel
theorem dX6_watch_28 : decode cX6_watch 28 = .ok (.getfield 32, 3) := by decide +kernel
theorem dX6_watch_31 : decode cX6_watch 31 = .ok (.getfield 169, 3) := by decide +kernel
theorem dX6_watch_34 : decode cX6_watch 34 = .ok (.iload_n 2, 1) := by decide +kernel
theorem dX6_watch_35 : decode cX6_watch 35 = .ok (.invokestatic 91, 3) := by decide +kernel
theorem dX6_watch_38 : decode cX6_watch 38 = .ok (.invokevirtual 216, 3) := by decide +kernel
theorem dX6_watch_41 : decode cX6_watch 41 = .ok (.ifCond .ne 9, 3) := by decide +kernel
theorem dX6_watch_44 : decode cX6_watch 44 = .ok (.iload_n 1, 1) := by decide +kernel
theorem dX6_watch_45 : decode cX6_watch 45 = .ok (.iconst 1, 1) := by decide +kernel
theorem dX6_watch_46 : decode cX6_watch 46 = .ok (.iload_n 2, 1) := by decide +kernel
theorem dX6_watch_47 : decode cX6_watch 47 = .ok (.ishl, 1) := by decide +kernel
theorem dX6_watch_48 : decode cX6_watch 48 = .ok (.ior, 1) := by decide +kernel
theorem dX6_watch_49 : decode cX6_watch 49 = .ok (.istore_n 1, 1) := by decide +kernel
theorem dX6_watch_50 : decode cX6_watch 50 = .ok (.iinc 2 1, 3) := by decide +kernel
theorem dX6_watch_53 : decode cX6_watch 53 = .ok (.goto (-37), 3) := by decide +kernel
theorem dX6_watch_56 : decode cX6_watch 56 = .ok (.iload_n 1, 1) := by decide +kernel
theorem dX6_watch_57 : decode cX6_watch 57 = .ok (.ireturn, 1) := by decide +kernel
theorem dX6_whoHad_0 : decode cX6_whoHad 0 = .ok (.aload_n 0, 1) := by decide +kernel
theorem dX6_whoHad_1 : decode cX6_whoHad 1 = .ok (.getfield 10, 3) := by decide +kernel
theorem dX6_whoHad_4 : decode cX6_whoHad 4 = .ok (.iload_n 1, 1) := by decide +kernel
theorem dX6_whoHad_5 : decode cX6_whoHad 5 = .ok (.invokevirtual 84, 3) := by decide +kernel
theorem dX6_whoHad_8 : decode cX6_whoHad 8 = .ok (.ifCond .ne 9, 3) := by decide +kernel
theorem dX6_whoHad_11 : decode cX6_whoHad 11 = .ok (.aload_n 0, 1) := by decide +kernel
theorem dX6_whoHad_12 : decode cX6_whoHad 12 = .ok (.iconst (-1), 1) := by decide +kernel
theorem dX6_whoHad_13 : decode cX6_whoHad 13 = .ok (.invokevirtual 65, 3) := by decide +kernel
theorem dX6_whoHad_16 : decode cX6_whoHad 16 = .ok (.ireturn, 1) := by decide +kernel
theorem dX6_whoHad_17 : decode cX6_whoHad 17 = .ok (.iload_n 2, 1) := by decide +kernel
theorem dX6_whoHad_18 : decode cX6_whoHad 18 = .ok (.lookupswitch 78 #[(0, 26), (1, 52)], 26) := by decide +kernel
theorem dX6_whoHad_44 : decode cX6_whoHad 44 = .ok (.aload_n 0, 1) := by decide +kernel
theorem dX6_whoHad_45 : decode cX6_whoHad 45 = .ok (.getfield 19, 3) := by decide +kernel
theorem dX6_whoHad_48 : decode cX6_whoHad 48 = .ok (.aload_n 0, 1) := by decide +kernel
theorem dX6_whoHad_49 : decode cX6_whoHad 49 = .ok (.getfield 10, 3) := by decide +kernel
theorem dX6_whoHad_52 : decode cX6_whoHad 52 = .ok (.invokevirtual 76, 3) := by decide +kernel
theorem dX6_whoHad_55 : decode cX6_whoHad 55 = .ok (.aload_n 0, 1) := by decide +kernel
theorem dX6_whoHad_56 : decode cX6_whoHad 56 = .ok (.aload_n 0, 1) := by decide +kernel
theorem dX6_whoHad_57 : decode cX6_whoHad 57 = .ok (.getfield 19, 3) := by decide +kernel
theorem dX6_whoHad_60 : decode cX6_whoHad 60 = .ok (.getfield 88, 3) := by decide +kernel
theorem dX6_whoHad_63 : decode cX6_whoHad 63 = .ok (.iload_n 1, 1) := by decide +kernel
theorem dX6_whoHad_64 : decode cX6_whoHad 64 = .ok (.bipush 6, 2) := by decide +kernel
theorem dX6_whoHad_66 : decode cX6_whoHad 66 = .ok (.invokevirtual 219, 3) := by decide +kernel
theorem dX6_whoHad_69 : decode cX6_whoHad 69 = .ok (.ireturn, 1) := by decide +kernel
theorem dX6_whoHad_70 : decode cX6_whoHad 70 = .ok (.aload_n 0, 1) := by decide +kernel
theorem dX6_whoHad_71 : decode cX6_whoHad 71 = .ok (.getfield 19, 3) := by decide +kernel
theorem dX6_whoHad_74 : decode cX6_whoHad 74 = .ok (.aload_n 0, 1) := by decide +kernel
theorem dX6_whoHad_75 : decode cX6_whoHad 75 = .ok (.getfield 10, 3) := by decide +kernel
theorem dX6_whoHad_78 : decode cX6_whoHad 78 = .ok (.invokevirtual 76, 3) := by decide +kernel
theorem dX6_whoHad_81 : decode cX6_whoHad 81 = .ok (.aload_n 0, 1) := by decide +kernel
theorem dX6_whoHad_82 : decode cX6_whoHad 82 = .ok (.aload_n 0, 1) := by decide +kernel
theorem dX6_whoHad_83 : decode cX6_whoHad 83 = .ok (.getfield 19, 3) := by decide +kernel
theorem dX6_whoHad_86 : decode cX6_whoHad 86 = .ok (.getfield 97, 3) := by decide +kernel
theorem dX6_whoHad_89 : decode cX6_whoHad 89 = .ok (.iload_n 1, 1) := by decide +kernel
theorem dX6_whoHad_90 : decode cX6_whoHad 90 = .ok (.bipush 10, 2) := by decide +kernel
theorem dX6_whoHad_92 : decode cX6_whoHad 92 = .ok (.invokevirtual 219, 3) := by decide +kernel
theorem dX6_whoHad_95 : decode cX6_whoHad 95 = .ok (.ireturn, 1) := by decide +kernel
theorem dX6_whoHad_96 : decode cX6_whoHad 96 = .ok (.aload_n 0, 1) := by decide +kernel
theorem dX6_whoHad_97 : decode cX6_whoHad 97 = .ok (.bipush (-2), 2) := by decide +kernel
theorem dX6_whoHad_99 : decode cX6_whoHad 99 = .ok (.invokevirtual 65, 3) := by decide +kernel
theorem dX6_whoHad_102 : decode cX6_whoHad 102 = .ok (.ireturn, 1) := by decide +kernel
theorem dX6_leastOil_0 : decode cX6_leastOil 0 = .ok (.aload_n 0, 1) := by decide +kernel
theorem dX6_leastOil_1 : decode cX6_leastOil 1 = .ok (.getfield 19, 3) := by decide +kernel
theorem dX6_leastOil_4 : decode cX6_leastOil 4 = .ok (.aload_n 0, 1) := by decide +kernel
theorem dX6_leastOil_5 : decode cX6_leastOil 5 = .ok (.getfield 10, 3) := by decide +kernel
theorem dX6_leastOil_8 : decode cX6_leastOil 8 = .ok (.invokevirtual 76, 3) := by decide +kernel
theorem dX6_leastOil_11 : decode cX6_leastOil 11 = .ok (.aload_n 0, 1) := by decide +kernel
theorem dX6_leastOil_12 : decode cX6_leastOil 12 = .ok (.getfield 19, 3) := by decide +kernel
theorem dX6_leastOil_15 : decode cX6_leastOil 15 = .ok (.iconst 1, 1) := by decide +kernel
theorem dX6_leastOil_16 : decode cX6_leastOil 16 = .ok (.sipush 200, 3) := by decide +kernel
theorem dX6_leastOil_19 : decode cX6_leastOil 19 = .ok (.invokevirtual 122, 3) := by decide +kernel
theorem dX6_leastOil_22 : decode cX6_leastOil 22 = .ok (.pop, 1) := by decide +kernel
theorem dX6_leastOil_23 : decode cX6_leastOil 23 = .ok (.aload_n 0, 1) := by decide +kernel
theorem dX6_leastOil_24 : decode cX6_leastOil 24 = .ok (.getfield 32, 3) := by decide +kernel
theorem dX6_leastOil_27 : decode cX6_leastOil 27 = .ok (.aload_n 0, 1) := by decide +kernel
theorem dX6_leastOil_28 : decode cX6_leastOil 28 = .ok (.getfield 19, 3) := by decide +kernel
theorem dX6_leastOil_31 : decode cX6_leastOil 31 = .ok (.invokevirtual 126, 3) := by decide +kernel
theorem dX6_leastOil_34 : decode cX6_leastOil 34 = .ok (.istore_n 1, 1) := by decide +kernel
theorem dX6_leastOil_35 : decode cX6_leastOil 35 = .ok (.iconst 0, 1) := by decide +kernel
theorem dX6_leastOil_36 : decode cX6_leastOil 36 = .ok (.istore_n 2, 1) := by decide +kernel
theorem dX6_leastOil_37 : decode cX6_leastOil 37 = .ok (.iload_n 2, 1) := by decide +kernel
theorem dX6_leastOil_38 : decode cX6_leastOil 38 = .ok (.sipush 200, 3) := by decide +kernel
theorem dX6_leastOil_41 : decode cX6_leastOil 41 = .ok (.if_icmp .ge 36, 3) := by decide +kernel
theorem dX6_leastOil_44 : decode cX6_leastOil 44 = .ok (.aload_n 0, 1) := by decide +kernel
theorem dX6_leastOil_45 : decode cX6_leastOil 45 = .ok (.getfield 19, 3) := by decide +kernel
theorem dX6_leastOil_48 : decode cX6_leastOil 48 = .ok (.iconst 1, 1) := by decide +kernel
theorem dX6_leastOil_49 : decode cX6_leastOil 49 = .ok (.iload_n 2, 1) := by decide +kernel
theorem dX6_leastOil_50 : decode cX6_leastOil 50 = .ok (.invokevirtual 122, 3) := by decide +kernel
theorem dX6_leastOil_53 : decode cX6_leastOil 53 = .ok (.pop, 1) := by decide +kernel
theorem dX6_leastOil_54 : decode cX6_leastOil 54 = .ok (.aload_n 0, 1) := by decide +kernel
theorem dX6_leastOil_55 : decode cX6_leastOil 55 = .ok (.getfield 32, 3) := by decide +kernel
theorem dX6_leastOil_58 : decode cX6_leastOil 58 = .ok (.aload_n 0, 1) := by decide +kernel
theorem dX6_leastOil_59 : decode cX6_leastOil 59 = .ok (.getfield 19, 3) := by decide +kernel
theorem dX6_leastOil_62 : decode cX6_leastOil 62 = .ok (.invokevirtual 126, 3) := by decide +kernel
theorem dX6_leastOil_65 : decode cX6_leastOil 65 = .ok (.iload_n 1, 1) := by decide +kernel
theorem dX6_leastOil_66 : decode cX6_leastOil 66 = .ok (.if_icmp .ne 5, 3) := by decide +kernel
theorem dX6_leastOil_69 : decode cX6_leastOil 69 = .ok (.iload_n 2, 1) := by decide +kernel
theorem dX6_leastOil_70 : decode cX6_leastOil 70 = .ok (.ireturn, 1) := by decide +kernel
theorem dX6_leastOil_71 : decode cX6_leastOil 71 = .ok (.iinc 2 1, 3) := by decide +kernel
theorem dX6_leastOil_74 : decode cX6_leastOil 74 = .ok (.goto (-37), 3) := by decide +kernel
theorem dX6_leastOil_77 : decode cX6_leastOil 77 = .ok (.sipush 200, 3) := by decide +kernel
theorem dX6_leastOil_80 : decode cX6_leastOil 80 = .ok (.ireturn, 1) := by decide +kernel
theorem dX6_row_0 : decode cX6_row 0 = .ok (.iload_n 1, 1) := by decide +kernel
theorem dX6_row_1 : decode cX6_row 1 = .ok (.ifCond .ge 10, 3) := by decide +kernel
theorem dX6_row_4 : decode cX6_row 4 = .ok (.aload_n 0, 1) := by decide +kernel
theorem dX6_row_5 : decode cX6_row 5 = .ok (.bipush (-4), 2) := by decide +kernel
theorem dX6_row_7 : decode cX6_row 7 = .ok (.invokevirtual 65, 3) := by decide +kernel
theorem dX6_row_10 : decode cX6_row 10 = .ok (.ireturn, 1) := by decide +kernel
theorem dX6_row_11 : decode cX6_row 11 = .ok (.iload_n 1, 1) := by decide +kernel
theorem dX6_row_12 : decode cX6_row 12 = .ok (.bipush 99, 2) := by decide +kernel
theorem dX6_row_14 : decode cX6_row 14 = .ok (.if_icmp .gt 12, 3) := by decide +kernel
theorem dX6_row_17 : decode cX6_row 17 = .ok (.aload_n 0, 1) := by decide +kernel
theorem dX6_row_18 : decode cX6_row 18 = .ok (.getfield 57, 3) := by decide +kernel
theorem dX6_row_21 : decode cX6_row 21 = .ok (.bipush 12, 2) := by decide +kernel
theorem dX6_row_23 : decode cX6_row 23 = .ok (.if_icmp .lt 10, 3) := by decide +kernel
theorem dX6_row_26 : decode cX6_row 26 = .ok (.aload_n 0, 1) := by decide +kernel
theorem dX6_row_27 : decode cX6_row 27 = .ok (.bipush (-6), 2) := by decide +kernel
theorem dX6_row_29 : decode cX6_row 29 = .ok (.invokevirtual 65, 3) := by decide +kernel
theorem dX6_row_32 : decode cX6_row 32 = .ok (.ireturn, 1) := by decide +kernel
theorem dX6_row_33 : decode cX6_row 33 = .ok (.aload_n 0, 1) := by decide +kernel
theorem dX6_row_34 : decode cX6_row 34 = .ok (.getfield 50, 3) := by decide +kernel
theorem dX6_row_37 : decode cX6_row 37 = .ok (.aload_n 0, 1) := by decide +kernel
theorem dX6_row_38 : decode cX6_row 38 = .ok (.getfield 57, 3) := by decide +kernel
theorem dX6_row_41 : decode cX6_row 41 = .ok (.iload_n 1, 1) := by decide +kernel
theorem dX6_row_42 : decode cX6_row 42 = .ok (.invokestatic 115, 3) := by decide +kernel
theorem dX6_row_45 : decode cX6_row 45 = .ok (.aload_n 0, 1) := by decide +kernel
theorem dX6_row_46 : decode cX6_row 46 = .ok (.dup, 1) := by decide +kernel
theorem dX6_row_47 : decode cX6_row 47 = .ok (.getfield 57, 3) := by decide +kernel
theorem dX6_row_50 : decode cX6_row 50 = .ok (.iconst 1, 1) := by decide +kernel
theorem dX6_row_51 : decode cX6_row 51 = .ok (.iadd, 1) := by decide +kernel
theorem dX6_row_52 : decode cX6_row 52 = .ok (.putfield 57, 3) := by decide +kernel
theorem dX6_row_55 : decode cX6_row 55 = .ok (.aload_n 0, 1) := by decide +kernel
theorem dX6_row_56 : decode cX6_row 56 = .ok (.getfield 57, 3) := by decide +kernel
theorem dX6_row_59 : decode cX6_row 59 = .ok (.ireturn, 1) := by decide +kernel
theorem dX6_judge_0 : decode cX6_judge 0 = .ok (.aload_n 0, 1) := by decide +kernel
theorem dX6_judge_1 : decode cX6_judge 1 = .ok (.getfield 32, 3) := by decide +kernel
theorem dX6_judge_4 : decode cX6_judge 4 = .ok (.aload_n 0, 1) := by decide +kernel
theorem dX6_judge_5 : decode cX6_judge 5 = .ok (.getfield 10, 3) := by decide +kernel
theorem dX6_judge_8 : decode cX6_judge 8 = .ok (.invokevirtual 126, 3) := by decide +kernel
theorem dX6_judge_11 : decode cX6_judge 11 = .ok (.pop, 1) := by decide +kernel
theorem dX6_judge_12 : decode cX6_judge 12 = .ok (.aload_n 0, 1) := by decide +kernel
theorem dX6_judge_13 : decode cX6_judge 13 = .ok (.invokevirtual 223, 3) := by decide +kernel
theorem dX6_judge_16 : decode cX6_judge 16 = .ok (.istore_n 1, 1) := by decide +kernel
theorem dX6_judge_17 : decode cX6_judge 17 = .ok (.aload_n 0, 1) := by decide +kernel
theorem dX6_judge_18 : decode cX6_judge 18 = .ok (.iconst 0, 1) := by decide +kernel
theorem dX6_judge_19 : decode cX6_judge 19 = .ok (.putfield 57, 3) := by decide +kernel
theorem dX6_judge_22 : decode cX6_judge 22 = .ok (.iload_n 1, 1) := by decide +kernel
theorem dX6_judge_23 : decode cX6_judge 23 = .ok (.ireturn, 1) := by decide +kernel
theorem dX6_clear_0 : decode cX6_clear 0 = .ok (.aload_n 0, 1) := by decide +kernel
theorem dX6_clear_1 : decode cX6_clear 1 = .ok (.getfield 57, 3) := by decide +kernel
theorem dX6_clear_4 : decode cX6_clear 4 = .ok (.istore_n 1, 1) := by decide +kernel
theorem dX6_clear_5 : decode cX6_clear 5 = .ok (.aload_n 0, 1) := by decide +kernel
theorem dX6_clear_6 : decode cX6_clear 6 = .ok (.iconst 0, 1) := by decide +kernel
theorem dX6_clear_7 : decode cX6_clear 7 = .ok (.putfield 57, 3) := by decide +kernel
theorem dX6_clear_10 : decode cX6_clear 10 = .ok (.iload_n 1, 1) := by decide +kernel
theorem dX6_clear_11 : decode cX6_clear 11 = .ok (.ireturn, 1) := by decide +kernel
theorem dX6_lots_0 : decode cX6_lots 0 = .ok (.iload_n 1, 1) := by decide +kernel
theorem dX6_lots_1 : decode cX6_lots 1 = .ok (.iconst 1, 1) := by decide +kernel
theorem dX6_lots_2 : decode cX6_lots 2 = .ok (.if_icmp .ge 10, 3) := by decide +kernel
theorem dX6_lots_5 : decode cX6_lots 5 = .ok (.aload_n 0, 1) := by decide +kernel
theorem dX6_lots_6 : decode cX6_lots 6 = .ok (.bipush (-4), 2) := by decide +kernel
theorem dX6_lots_8 : decode cX6_lots 8 = .ok (.invokevirtual 65, 3) := by decide +kernel
theorem dX6_lots_11 : decode cX6_lots 11 = .ok (.ireturn, 1) := by decide +kernel
theorem dX6_lots_12 : decode cX6_lots 12 = .ok (.iload_n 1, 1) := by decide +kernel
theorem dX6_lots_13 : decode cX6_lots 13 = .ok (.bipush 20, 2) := by decide +kernel
theorem dX6_lots_15 : decode cX6_lots 15 = .ok (.if_icmp .le 10, 3) := by decide +kernel
theorem dX6_lots_18 : decode cX6_lots 18 = .ok (.aload_n 0, 1) := by decide +kernel
theorem dX6_lots_19 : decode cX6_lots 19 = .ok (.bipush (-6), 2) := by decide +kernel
theorem dX6_lots_21 : decode cX6_lots 21 = .ok (.invokevirtual 65, 3) := by decide +kernel
theorem dX6_lots_24 : decode cX6_lots 24 = .ok (.ireturn, 1) := by decide +kernel
theorem dX6_lots_25 : decode cX6_lots 25 = .ok (.iload_n 3, 1) := by decide +kernel
theorem dX6_lots_26 : decode cX6_lots 26 = .ok (.ifCond .eq 15, 3) := by decide +kernel
theorem dX6_lots_29 : decode cX6_lots 29 = .ok (.iload_n 3, 1) := by decide +kernel
theorem dX6_lots_30 : decode cX6_lots 30 = .ok (.iconst 1, 1) := by decide +kernel
theorem dX6_lots_31 : decode cX6_lots 31 = .ok (.if_icmp .eq 10, 3) := by decide +kernel
theorem dX6_lots_34 : decode cX6_lots 34 = .ok (.aload_n 0, 1) := by decide +kernel
theorem dX6_lots_35 : decode cX6_lots 35 = .ok (.bipush (-2), 2) := by decide +kernel
theorem dX6_lots_37 : decode cX6_lots 37 = .ok (.invokevirtual 65, 3) := by decide +kernel
theorem dX6_lots_40 : decode cX6_lots 40 = .ok (.ireturn, 1) := by decide +kernel
theorem dX6_lots_41 : decode cX6_lots 41 = .ok (.aload_n 0, 1) := by decide +kernel
theorem dX6_lots_42 : decode cX6_lots 42 = .ok (.getfield 19, 3) := by decide +kernel
theorem dX6_lots_45 : decode cX6_lots 45 = .ok (.aload_n 0, 1) := by decide +kernel
theorem dX6_lots_46 : decode cX6_lots 46 = .ok (.getfield 10, 3) := by decide +kernel
theorem dX6_lots_49 : decode cX6_lots 49 = .ok (.invokevirtual 76, 3) := by decide +kernel
theorem dX6_lots_52 : decode cX6_lots 52 = .ok (.iload_n 2, 1) := by decide +kernel
theorem dX6_lots_53 : decode cX6_lots 53 = .ok (.istore 4, 2) := by decide +kernel
theorem dX6_lots_55 : decode cX6_lots 55 = .ok (.iconst 0, 1) := by decide +kernel
theorem dX6_lots_56 : decode cX6_lots 56 = .ok (.istore 5, 2) := by decide +kernel
theorem dX6_lots_58 : decode cX6_lots 58 = .ok (.iconst 0, 1) := by decide +kernel
theorem dX6_lots_59 : decode cX6_lots 59 = .ok (.istore 6, 2) := by decide +kernel
theorem dX6_lots_61 : decode cX6_lots 61 = .ok (.iconst 0, 1) := by decide +kernel
theorem dX6_lots_62 : decode cX6_lots 62 = .ok (.istore 7, 2) := by decide +kernel
theorem dX6_lots_64 : decode cX6_lots 64 = .ok (.iload 7, 2) := by decide +kernel
theorem dX6_lots_66 : decode cX6_lots 66 = .ok (.iload_n 1, 1) := by decide +kernel
theorem dX6_lots_67 : decode cX6_lots 67 = .ok (.if_icmp .ge 56, 3) := by decide +kernel
theorem dX6_lots_70 : decode cX6_lots 70 = .ok (.aload_n 0, 1) := by decide +kernel
theorem dX6_lots_71 : decode cX6_lots 71 = .ok (.getfield 19, 3) := by decide +kernel
theorem dX6_lots_74 : decode cX6_lots 74 = .ok (.iload 4, 2) := by decide +kernel
theorem dX6_lots_76 : decode cX6_lots 76 = .ok (.invokevirtual 226, 3) := by decide +kernel
theorem dX6_lots_79 : decode cX6_lots 79 = .ok (.istore 4, 2) := by decide +kernel
theorem dX6_lots_81 : decode cX6_lots 81 = .ok (.iload 5, 2) := by decide +kernel
theorem dX6_lots_83 : decode cX6_lots 83 = .ok (.aload_n 0, 1) := by decide +kernel
theorem dX6_lots_84 : decode cX6_lots 84 = .ok (.getfield 32, 3) := by decide +kernel
theorem dX6_lots_87 : decode cX6_lots 87 = .ok (.aload_n 0, 1) := by decide +kernel
theorem dX6_lots_88 : decode cX6_lots 88 = .ok (.getfield 19, 3) := by decide +kernel
theorem dX6_lots_91 : decode cX6_lots 91 = .ok (.invokevirtual 126, 3) := by decide +kernel
theorem dX6_lots_94 : decode cX6_lots 94 = .ok (.iadd, 1) := by decide +kernel
theorem dX6_lots_95 : decode cX6_lots 95 = .ok (.istore 5, 2) := by decide +kernel
theorem dX6_lots_97 : decode cX6_lots 97 = .ok (.aload_n 0, 1) := by decide +kernel
theorem dX6_lots_98 : decode cX6_lots 98 = .ok (.getfield 32, 3) := by decide +kernel
theorem dX6_lots_101 : decode cX6_lots 101 = .ok (.invokevirtual 138, 3) := by decide +kernel
theorem dX6_lots_104 : decode cX6_lots 104 = .ok (.aload_n 0, 1) := by decide +kernel
theorem dX6_lots_105 : decode cX6_lots 105 = .ok (.getfield 19, 3) := by decide +kernel
theorem dX6_lots_108 : decode cX6_lots 108 = .ok (.invokevirtual 229, 3) := by decide +kernel
theorem dX6_lots_111 : decode cX6_lots 111 = .ok (.if_icmp .ne 6, 3) := by decide +kernel
theorem dX6_lots_114 : decode cX6_lots 114 = .ok (.iinc 6 1, 3) := by decide +kernel
theorem dX6_lots_117 : decode cX6_lots 117 = .ok (.iinc 7 1, 3) := by decide +kernel
theorem dX6_lots_120 : decode cX6_lots 120 = .ok (.goto (-56), 3) := by decide +kernel
theorem dX6_lots_123 : decode cX6_lots 123 = .ok (.iload_n 3, 1) := by decide +kernel
theorem dX6_lots_124 : decode cX6_lots 124 = .ok (.ifCond .ne 8, 3) := by decide +kernel
theorem dX6_lots_127 : decode cX6_lots 127 = .ok (.iload 5, 2) := by decide +kernel
theorem dX6_lots_129 : decode cX6_lots 129 = .ok (.goto 5, 3) := by decide +kernel
theorem dX6_lots_132 : decode cX6_lots 132 = .ok (.iload 6, 2) := by decide +kernel
theorem dX6_lots_134 : decode cX6_lots 134 = .ok (.ireturn, 1) := by decide +kernel
theorem dX6_image_0 : decode cX6_image 0 = .ok (.aload_n 0, 1) := by decide +kernel
theorem dX6_image_1 : decode cX6_image 1 = .ok (.getfield 16, 3) := by decide +kernel
theorem dX6_image_4 : decode cX6_image 4 = .ok (.aload_n 0, 1) := by decide +kernel
theorem dX6_image_5 : decode cX6_image 5 = .ok (.getfield 10, 3) := by decide +kernel
theorem dX6_image_8 : decode cX6_image 8 = .ok (.invokevirtual 76, 3) := by decide +kernel
theorem dX6_image_11 : decode cX6_image 11 = .ok (.aload_n 0, 1) := by decide +kernel
theorem dX6_image_12 : decode cX6_image 12 = .ok (.iconst 1, 1) := by decide +kernel
theorem dX6_image_13 : decode cX6_image 13 = .ok (.putfield 61, 3) := by decide +kernel
theorem dX6_image_16 : decode cX6_image 16 = .ok (.aload_n 0, 1) := by decide +kernel
theorem dX6_image_17 : decode cX6_image 17 = .ok (.getfield 10, 3) := by decide +kernel
theorem dX6_image_20 : decode cX6_image 20 = .ok (.getfield 172, 3) := by decide +kernel
theorem dX6_image_23 : decode cX6_image 23 = .ok (.ireturn, 1) := by decide +kernel
theorem dX6_on_0 : decode cX6_on 0 = .ok (.aload_n 0, 1) := by decide +kernel
theorem dX6_on_1 : decode cX6_on 1 = .ok (.getfield 61, 3) := by decide +kernel
theorem dX6_on_4 : decode cX6_on 4 = .ok (.ifCond .ne 10, 3) := by decide +kernel
theorem dX6_on_7 : decode cX6_on 7 = .ok (.aload_n 0, 1) := by decide +kernel
theorem dX6_on_8 : decode cX6_on 8 = .ok (.bipush (-3), 2) := by decide +kernel
theorem dX6_on_10 : decode cX6_on 10 = .ok (.invokevirtual 65, 3) := by decide +kernel
theorem dX6_on_13 : decode cX6_on 13 = .ok (.ireturn, 1) := by decide +kernel
theorem dX6_on_14 : decode cX6_on 14 = .ok (.aload_n 0, 1) := by decide +kernel
theorem dX6_on_15 : decode cX6_on 15 = .ok (.getfield 10, 3) := by decide +kernel
theorem dX6_on_18 : decode cX6_on 18 = .ok (.aload_n 0, 1) := by decide +kernel
theorem dX6_on_19 : decode cX6_on 19 = .ok (.getfield 16, 3) := by decide +kernel
theorem dX6_on_22 : decode cX6_on 22 = .ok (.invokevirtual 76, 3) := by decide +kernel
theorem dX6_on_25 : decode cX6_on 25 = .ok (.aload_n 0, 1) := by decide +kernel
theorem dX6_on_26 : decode cX6_on 26 = .ok (.getfield 10, 3) := by decide +kernel
theorem dX6_on_29 : decode cX6_on 29 = .ok (.getfield 172, 3) := by decide +kernel
theorem dX6_on_32 : decode cX6_on 32 = .ok (.ireturn, 1) := by decide +kernel
theorem dX6_count_0 : decode cX6_count 0 = .ok (.iload_n 1, 1) := by decide +kernel
theorem dX6_count_1 : decode cX6_count 1 = .ok (.tableswitch 96 0 6 #[43, 51, 59, 67, 75, 83, 88], 43) := by decide +kernel
theorem dX6_count_44 : decode cX6_count 44 = .ok (.aload_n 0, 1) := by decide +kernel
theorem dX6_count_45 : decode cX6_count 45 = .ok (.getfield 10, 3) := by decide +kernel
theorem dX6_count_48 : decode cX6_count 48 = .ok (.getfield 172, 3) := by decide +kernel
theorem dX6_count_51 : decode cX6_count 51 = .ok (.ireturn, 1) := by decide +kernel
theorem dX6_count_52 : decode cX6_count 52 = .ok (.aload_n 0, 1) := by decide +kernel
theorem dX6_count_53 : decode cX6_count 53 = .ok (.getfield 10, 3) := by decide +kernel
theorem dX6_count_56 : decode cX6_count 56 = .ok (.invokevirtual 229, 3) := by decide +kernel
theorem dX6_count_59 : decode cX6_count 59 = .ok (.ireturn, 1) := by decide +kernel
theorem dX6_count_60 : decode cX6_count 60 = .ok (.aload_n 0, 1) := by decide +kernel
theorem dX6_count_61 : decode cX6_count 61 = .ok (.getfield 10, 3) := by decide +kernel
theorem dX6_count_64 : decode cX6_count 64 = .ok (.invokevirtual 232, 3) := by decide +kernel
theorem dX6_count_67 : decode cX6_count 67 = .ok (.ireturn, 1) := by decide +kernel
theorem dX6_count_68 : decode cX6_count 68 = .ok (.aload_n 0, 1) := by decide +kernel
theorem dX6_count_69 : decode cX6_count 69 = .ok (.getfield 10, 3) := by decide +kernel
theorem dX6_count_72 : decode cX6_count 72 = .ok (.invokevirtual 235, 3) := by decide +kernel
theorem dX6_count_75 : decode cX6_count 75 = .ok (.ireturn, 1) := by decide +kernel
theorem dX6_count_76 : decode cX6_count 76 = .ok (.aload_n 0, 1) := by decide +kernel
theorem dX6_count_77 : decode cX6_count 77 = .ok (.getfield 10, 3) := by decide +kernel
theorem dX6_count_80 : decode cX6_count 80 = .ok (.invokevirtual 237, 3) := by decide +kernel
theorem dX6_count_83 : decode cX6_count 83 = .ok (.ireturn, 1) := by decide +kernel
theorem dX6_count_84 : decode cX6_count 84 = .ok (.aload_n 0, 1) := by decide +kernel
theorem dX6_count_85 : decode cX6_count 85 = .ok (.getfield 57, 3) := by decide +kernel
theorem dX6_count_88 : decode cX6_count 88 = .ok (.ireturn, 1) := by decide +kernel
theorem dX6_count_89 : decode cX6_count 89 = .ok (.aload_n 0, 1) := by decide +kernel
theorem dX6_count_90 : decode cX6_count 90 = .ok (.getfield 25, 3) := by decide +kernel
theorem dX6_count_93 : decode cX6_count 93 = .ok (.getfield 69, 3) := by decide +kernel
theorem dX6_count_96 : decode cX6_count 96 = .ok (.ireturn, 1) := by decide +kernel
theorem dX6_count_97 : decode cX6_count 97 = .ok (.iload_n 1, 1) := by decide +kernel
theorem dX6_count_98 : decode cX6_count 98 = .ok (.bipush 10, 2) := by decide +kernel
theorem dX6_count_100 : decode cX6_count 100 = .ok (.if_icmp .le 21, 3) := by decide +kernel
theorem dX6_count_103 : decode cX6_count 103 = .ok (.iload_n 1, 1) := by decide +kernel
theorem dX6_count_104 : decode cX6_count 104 = .ok (.bipush 16, 2) := by decide +kernel
theorem dX6_count_106 : decode cX6_count 106 = .ok (.if_icmp .gt 15, 3) := by decide +kernel
theorem dX6_count_109 : decode cX6_count 109 = .ok (.aload_n 0, 1) := by decide +kernel
theorem dX6_count_110 : decode cX6_count 110 = .ok (.getfield 54, 3) := by decide +kernel
theorem dX6_count_113 : decode cX6_count 113 = .ok (.iload_n 1, 1) := by decide +kernel
theorem dX6_count_114 : decode cX6_count 114 = .ok (.bipush 10, 2) := by decide +kernel
theorem dX6_count_116 : decode cX6_count 116 = .ok (.isub, 1) := by decide +kernel
theorem dX6_count_117 : decode cX6_count 117 = .ok (.invokestatic 91, 3) := by decide +kernel
theorem dX6_count_120 : decode cX6_count 120 = .ok (.ireturn, 1) := by decide +kernel
theorem dX6_count_121 : decode cX6_count 121 = .ok (.bipush (-9), 2) := by decide +kernel
theorem dX6_count_123 : decode cX6_count 123 = .ok (.ireturn, 1) := by decide +kernel
theorem dX6_refuse_0 : decode cX6_refuse 0 = .ok (.aload_n 0, 1) := by decide +kernel
theorem dX6_refuse_1 : decode cX6_refuse 1 = .ok (.getfield 54, 3) := by decide +kernel
theorem dX6_refuse_4 : decode cX6_refuse 4 = .ok (.iload_n 1, 1) := by decide +kernel
theorem dX6_refuse_5 : decode cX6_refuse 5 = .ok (.ineg, 1) := by decide +kernel
theorem dX6_refuse_6 : decode cX6_refuse 6 = .ok (.aload_n 0, 1) := by decide +kernel
theorem dX6_refuse_7 : decode cX6_refuse 7 = .ok (.getfield 54, 3) := by decide +kernel
theorem dX6_refuse_10 : decode cX6_refuse 10 = .ok (.iload_n 1, 1) := by decide +kernel
theorem dX6_refuse_11 : decode cX6_refuse 11 = .ok (.ineg, 1) := by decide +kernel
theorem dX6_refuse_12 : decode cX6_refuse 12 = .ok (.invokestatic 91, 3) := by decide +kernel
theorem dX6_refuse_15 : decode cX6_refuse 15 = .ok (.iconst 1, 1) := by decide +kernel
theorem dX6_refuse_16 : decode cX6_refuse 16 = .ok (.iadd, 1) := by decide +kernel
theorem dX6_refuse_17 : decode cX6_refuse 17 = .ok (.invokestatic 115, 3) := by decide +kernel
theorem dX6_refuse_20 : decode cX6_refuse 20 = .ok (.iload_n 1, 1) := by decide +kernel
theorem dX6_refuse_21 : decode cX6_refuse 21 = .ok (.ireturn, 1) := by decide +kernel
theorem dX6_refuseAmongAll_0 : decode cX6_refuseAmongAll 0 = .ok (.ldc 240, 2) := by decide +kernel
theorem dX6_refuseAmongAll_2 : decode cX6_refuseAmongAll 2 = .ok (.aload_n 0, 1) := by decide +kernel
theorem dX6_refuseAmongAll_3 : decode cX6_refuseAmongAll 3 = .ok (.iload_n 1, 1) := by decide +kernel
theorem dX6_refuseAmongAll_4 : decode cX6_refuseAmongAll 4 = .ok (.invokevirtual 65, 3) := by decide +kernel
theorem dX6_refuseAmongAll_7 : decode cX6_refuseAmongAll 7 = .ok (.isub, 1) := by decide +kernel
theorem dX6_refuseAmongAll_8 : decode cX6_refuseAmongAll 8 = .ok (.ireturn, 1) := by decide +kernel
theorem dX6_hourRefusal_0 : decode cX6_hourRefusal 0 = .ok (.iload_n 0, 1) := by decide +kernel
theorem dX6_hourRefusal_1 : decode cX6_hourRefusal 1 = .ok (.ifCond .ge 6, 3) := by decide +kernel
theorem dX6_hourRefusal_4 : decode cX6_hourRefusal 4 = .ok (.bipush (-4), 2) := by decide +kernel
theorem dX6_hourRefusal_6 : decode cX6_hourRefusal 6 = .ok (.ireturn, 1) := by decide +kernel
theorem dX6_hourRefusal_7 : decode cX6_hourRefusal 7 = .ok (.iload_n 0, 1) := by decide +kernel
theorem dX6_hourRefusal_8 : decode cX6_hourRefusal 8 = .ok (.bipush 12, 2) := by decide +kernel
theorem dX6_hourRefusal_10 : decode cX6_hourRefusal 10 = .ok (.if_icmp .lt 8, 3) := by decide +kernel
theorem dX6_hourRefusal_13 : decode cX6_hourRefusal 13 = .ok (.bipush (-6), 2) := by decide +kernel
theorem dX6_hourRefusal_15 : decode cX6_hourRefusal 15 = .ok (.goto 4, 3) := by decide +kernel
theorem dX6_hourRefusal_18 : decode cX6_hourRefusal 18 = .ok (.iconst 0, 1) := by decide +kernel
theorem dX6_hourRefusal_19 : decode cX6_hourRefusal 19 = .ok (.ireturn, 1) := by decide +kernel
theorem dX6_isCell_0 : decode cX6_isCell 0 = .ok (.iload_n 0, 1) := by decide +kernel
theorem dX6_isCell_1 : decode cX6_isCell 1 = .ok (.ifCond .lt 13, 3) := by decide +kernel
theorem dX6_isCell_4 : decode cX6_isCell 4 = .ok (.iload_n 0, 1) := by decide +kernel
theorem dX6_isCell_5 : decode cX6_isCell 5 = .ok (.bipush 40, 2) := by decide +kernel
theorem dX6_isCell_7 : decode cX6_isCell 7 = .ok (.if_icmp .ge 7, 3) := by decide +kernel
theorem dX6_isCell_10 : decode cX6_isCell 10 = .ok (.iconst 1, 1) := by decide +kernel
theorem dX6_isCell_11 : decode cX6_isCell 11 = .ok (.goto 4, 3) := by decide +kernel
theorem dX6_isCell_14 : decode cX6_isCell 14 = .ok (.iconst 0, 1) := by decide +kernel
theorem dX6_isCell_15 : decode cX6_isCell 15 = .ok (.ireturn, 1) := by decide +kernel
theorem dX6_valuesThatFitTheRow_0 : decode cX6_valuesThatFitTheRow 0 = .ok (.iconst 0, 1) := by decide +kernel
theorem dX6_valuesThatFitTheRow_1 : decode cX6_valuesThatFitTheRow 1 = .ok (.istore 4, 2) := by decide +kernel
theorem dX6_valuesThatFitTheRow_3 : decode cX6_valuesThatFitTheRow 3 = .ok (.iconst 0, 1) := by decide +kernel
theorem dX6_valuesThatFitTheRow_4 : decode cX6_valuesThatFitTheRow 4 = .ok (.istore 5, 2) := by decide +kernel
theorem dX6_valuesThatFitTheRow_6 : decode cX6_valuesThatFitTheRow 6 = .ok (.iload 5, 2) := by decide +kernel
theorem dX6_valuesThatFitTheRow_8 : decode cX6_valuesThatFitTheRow 8 = .ok (.iload_n 3, 1) := by decide +kernel
theorem dX6_valuesThatFitTheRow_9 : decode cX6_valuesThatFitTheRow 9 = .ok (.if_icmp .ge 46, 3) := by decide +kernel
theorem dX6_valuesThatFitTheRow_12 : decode cX6_valuesThatFitTheRow 12 = .ok (.aload_n 1, 1) := by decide +kernel
theorem dX6_valuesThatFitTheRow_13 : decode cX6_valuesThatFitTheRow 13 = .ok (.iload_n 2, 1) := by decide +kernel
theorem dX6_valuesThatFitTheRow_14 : decode cX6_valuesThatFitTheRow 14 = .ok (.iload 5, 2) := by decide +kernel
theorem dX6_valuesThatFitTheRow_16 : decode cX6_valuesThatFitTheRow 16 = .ok (.invokestatic 115, 3) := by decide +kernel
theorem dX6_valuesThatFitTheRow_19 : decode cX6_valuesThatFitTheRow 19 = .ok (.aload_n 0, 1) := by decide +kernel
theorem dX6_valuesThatFitTheRow_20 : decode cX6_valuesThatFitTheRow 20 = .ok (.getfield 32, 3) := by decide +kernel
theorem dX6_valuesThatFitTheRow_23 : decode cX6_valuesThatFitTheRow 23 = .ok (.aload_n 0, 1) := by decide +kernel
theorem dX6_valuesThatFitTheRow_24 : decode cX6_valuesThatFitTheRow 24 = .ok (.getfield 19, 3) := by decide +kernel
theorem dX6_valuesThatFitTheRow_27 : decode cX6_valuesThatFitTheRow 27 = .ok (.invokevirtual 126, 3) := by decide +kernel
theorem dX6_valuesThatFitTheRow_30 : decode cX6_valuesThatFitTheRow 30 = .ok (.pop, 1) := by decide +kernel
theorem dX6_valuesThatFitTheRow_31 : decode cX6_valuesThatFitTheRow 31 = .ok (.aload_n 0, 1) := by decide +kernel
theorem dX6_valuesThatFitTheRow_32 : decode cX6_valuesThatFitTheRow 32 = .ok (.invokevirtual 223, 3) := by decide +kernel
theorem dX6_valuesThatFitTheRow_35 : decode cX6_valuesThatFitTheRow 35 = .ok (.bipush (-9), 2) := by decide +kernel
theorem dX6_valuesThatFitTheRow_37 : decode cX6_valuesThatFitTheRow 37 = .ok (.if_icmp .ne 12, 3) := by decide +kernel
theorem dX6_valuesThatFitTheRow_40 : decode cX6_valuesThatFitTheRow 40 = .ok (.iload 4, 2) := by decide +kernel
theorem dX6_valuesThatFitTheRow_42 : decode cX6_valuesThatFitTheRow 42 = .ok (.iconst 1, 1) := by decide +kernel
theorem dX6_valuesThatFitTheRow_43 : decode cX6_valuesThatFitTheRow 43 = .ok (.iload 5, 2) := by decide +kernel
theorem dX6_valuesThatFitTheRow_45 : decode cX6_valuesThatFitTheRow 45 = .ok (.ishl, 1) := by decide +kernel
theorem dX6_valuesThatFitTheRow_46 : decode cX6_valuesThatFitTheRow 46 = .ok (.ior, 1) := by decide +kernel
theorem dX6_valuesThatFitTheRow_47 : decode cX6_valuesThatFitTheRow 47 = .ok (.istore 4, 2) := by decide +kernel
theorem dX6_valuesThatFitTheRow_49 : decode cX6_valuesThatFitTheRow 49 = .ok (.iinc 5 1, 3) := by decide +kernel
theorem dX6_valuesThatFitTheRow_52 : decode cX6_valuesThatFitTheRow 52 = .ok (.goto (-46), 3) := by decide +kernel
theorem dX6_valuesThatFitTheRow_55 : decode cX6_valuesThatFitTheRow 55 = .ok (.iload 4, 2) := by decide +kernel
theorem dX6_valuesThatFitTheRow_57 : decode cX6_valuesThatFitTheRow 57 = .ok (.ireturn, 1) := by decide +kernel
theorem dX6_firstNotSo_0 : decode cX6_firstNotSo 0 = .ok (.iconst 0, 1) := by decide +kernel
theorem dX6_firstNotSo_1 : decode cX6_firstNotSo 1 = .ok (.istore_n 1, 1) := by decide +kernel
theorem dX6_firstNotSo_2 : decode cX6_firstNotSo 2 = .ok (.iload_n 1, 1) := by decide +kernel
theorem dX6_firstNotSo_3 : decode cX6_firstNotSo 3 = .ok (.aload_n 0, 1) := by decide +kernel
theorem dX6_firstNotSo_4 : decode cX6_firstNotSo 4 = .ok (.getfield 57, 3) := by decide +kernel
theorem dX6_firstNotSo_7 : decode cX6_firstNotSo 7 = .ok (.if_icmp .ge 39, 3) := by decide +kernel
theorem dX6_firstNotSo_10 : decode cX6_firstNotSo 10 = .ok (.iload_n 1, 1) := by decide +kernel
theorem dX6_firstNotSo_11 : decode cX6_firstNotSo 11 = .ok (.bipush 12, 2) := by decide +kernel
theorem dX6_firstNotSo_13 : decode cX6_firstNotSo 13 = .ok (.if_icmp .ge 25, 3) := by decide +kernel
theorem dX6_firstNotSo_16 : decode cX6_firstNotSo 16 = .ok (.aload_n 0, 1) := by decide +kernel
theorem dX6_firstNotSo_17 : decode cX6_firstNotSo 17 = .ok (.getfield 50, 3) := by decide +kernel
theorem dX6_firstNotSo_20 : decode cX6_firstNotSo 20 = .ok (.iload_n 1, 1) := by decide +kernel
theorem dX6_firstNotSo_21 : decode cX6_firstNotSo 21 = .ok (.invokestatic 91, 3) := by decide +kernel
theorem dX6_firstNotSo_24 : decode cX6_firstNotSo 24 = .ok (.aload_n 0, 1) := by decide +kernel
theorem dX6_firstNotSo_25 : decode cX6_firstNotSo 25 = .ok (.getfield 32, 3) := by decide +kernel
theorem dX6_firstNotSo_28 : decode cX6_firstNotSo 28 = .ok (.getfield 169, 3) := by decide +kernel
theorem dX6_firstNotSo_31 : decode cX6_firstNotSo 31 = .ok (.iload_n 1, 1) := by decide +kernel
theorem dX6_firstNotSo_32 : decode cX6_firstNotSo 32 = .ok (.invokestatic 91, 3) := by decide +kernel
theorem dX6_firstNotSo_35 : decode cX6_firstNotSo 35 = .ok (.if_icmp .eq 5, 3) := by decide +kernel
theorem dX6_firstNotSo_38 : decode cX6_firstNotSo 38 = .ok (.iload_n 1, 1) := by decide +kernel
theorem dX6_firstNotSo_39 : decode cX6_firstNotSo 39 = .ok (.ireturn, 1) := by decide +kernel
theorem dX6_firstNotSo_40 : decode cX6_firstNotSo 40 = .ok (.iinc 1 1, 3) := by decide +kernel
theorem dX6_firstNotSo_43 : decode cX6_firstNotSo 43 = .ok (.goto (-41), 3) := by decide +kernel
theorem dX6_firstNotSo_46 : decode cX6_firstNotSo 46 = .ok (.bipush (-9), 2) := by decide +kernel
theorem dX6_firstNotSo_48 : decode cX6_firstNotSo 48 = .ok (.ireturn, 1) := by decide +kernel
theorem dX7_init_0 : decode cX7_init 0 = .ok (.aload_n 0, 1) := by decide +kernel
theorem dX7_init_1 : decode cX7_init 1 = .ok (.invokespecial 1, 3) := by decide +kernel
theorem dX7_init_4 : decode cX7_init 4 = .ok (.aload_n 0, 1) := by decide +kernel
theorem dX7_init_5 : decode cX7_init 5 = .ok (.bipush 7, 2) := by decide +kernel
theorem dX7_init_7 : decode cX7_init 7 = .ok (.newarray .int, 2) := by decide +kernel
theorem dX7_init_9 : decode cX7_init 9 = .ok (.putfield 7, 3) := by decide +kernel
theorem dX7_init_12 : decode cX7_init 12 = .ok (.aload_n 0, 1) := by decide +kernel
theorem dX7_init_13 : decode cX7_init 13 = .ok (.bipush 7, 2) := by decide +kernel
theorem dX7_init_15 : decode cX7_init 15 = .ok (.newarray .int, 2) := by decide +kernel
theorem dX7_init_17 : decode cX7_init 17 = .ok (.putfield 13, 3) := by decide +kernel
theorem dX7_init_20 : decode cX7_init 20 = .ok (.aload_n 0, 1) := by decide +kernel
theorem dX7_init_21 : decode cX7_init 21 = .ok (.bipush 7, 2) := by decide +kernel
theorem dX7_init_23 : decode cX7_init 23 = .ok (.newarray .int, 2) := by decide +kernel
theorem dX7_init_25 : decode cX7_init 25 = .ok (.putfield 16, 3) := by decide +kernel
theorem dX7_init_28 : decode cX7_init 28 = .ok (.aload_n 0, 1) := by decide +kernel
theorem dX7_init_29 : decode cX7_init 29 = .ok (.bipush 7, 2) := by decide +kernel
theorem dX7_init_31 : decode cX7_init 31 = .ok (.newarray .int, 2) := by decide +kernel
theorem dX7_init_33 : decode cX7_init 33 = .ok (.putfield 19, 3) := by decide +kernel
theorem dX7_init_36 : decode cX7_init 36 = .ok (.aload_n 0, 1) := by decide +kernel
theorem dX7_init_37 : decode cX7_init 37 = .ok (.bipush 7, 2) := by decide +kernel
theorem dX7_init_39 : decode cX7_init 39 = .ok (.newarray .int, 2) := by decide +kernel
theorem dX7_init_41 : decode cX7_init 41 = .ok (.putfield 22, 3) := by decide +kernel
theorem dX7_init_44 : decode cX7_init 44 = .ok (.aload_n 0, 1) := by decide +kernel
theorem dX7_init_45 : decode cX7_init 45 = .ok (.iconst 3, 1) := by decide +kernel
theorem dX7_init_46 : decode cX7_init 46 = .ok (.newarray .int, 2) := by decide +kernel
theorem dX7_init_48 : decode cX7_init 48 = .ok (.putfield 25, 3) := by decide +kernel
theorem dX7_init_51 : decode cX7_init 51 = .ok (.aload_n 0, 1) := by decide +kernel
theorem dX7_init_52 : decode cX7_init 52 = .ok (.bipush 96, 2) := by decide +kernel
theorem dX7_init_54 : decode cX7_init 54 = .ok (.newarray .int, 2) := by decide +kernel
theorem dX7_init_56 : decode cX7_init 56 = .ok (.putfield 28, 3) := by decide +kernel
theorem dX7_init_59 : decode cX7_init 59 = .ok (.aload_n 0, 1) := by decide +kernel
theorem dX7_init_60 : decode cX7_init 60 = .ok (.bipush 8, 2) := by decide +kernel
theorem dX7_init_62 : decode cX7_init 62 = .ok (.newarray .int, 2) := by decide +kernel
theorem dX7_init_64 : decode cX7_init 64 = .ok (.putfield 31, 3) := by decide +kernel
theorem dX7_init_67 : decode cX7_init 67 = .ok (.aload_n 0, 1) := by decide +kernel
theorem dX7_init_68 : decode cX7_init 68 = .ok (.bipush 12, 2) := by decide +kernel
theorem dX7_init_70 : decode cX7_init 70 = .ok (.newarray .int, 2) := by decide +kernel
theorem dX7_init_72 : decode cX7_init 72 = .ok (.putfield 34, 3) := by decide +kernel
theorem dX7_init_75 : decode cX7_init 75 = .ok (.aload_n 0, 1) := by decide +kernel
theorem dX7_init_76 : decode cX7_init 76 = .ok (.bipush 7, 2) := by decide +kernel
theorem dX7_init_78 : decode cX7_init 78 = .ok (.newarray .int, 2) := by decide +kernel
theorem dX7_init_80 : decode cX7_init 80 = .ok (.putfield 37, 3) := by decide +kernel
theorem dX7_init_83 : decode cX7_init 83 = .ok (.aload_n 0, 1) := by decide +kernel
theorem dX7_init_84 : decode cX7_init 84 = .ok (.bipush 39, 2) := by decide +kernel
theorem dX7_init_86 : decode cX7_init 86 = .ok (.newarray .int, 2) := by decide +kernel
theorem dX7_init_88 : decode cX7_init 88 = .ok (.putfield 40, 3) := by decide +kernel
theorem dX7_init_91 : decode cX7_init 91 = .ok (.aload_n 0, 1) := by decide +kernel
theorem dX7_init_92 : decode cX7_init 92 = .ok (.bipush 39, 2) := by decide +kernel
theorem dX7_init_94 : decode cX7_init 94 = .ok (.newarray .int, 2) := by decide +kernel
theorem dX7_init_96 : decode cX7_init 96 = .ok (.putfield 43, 3) := by decide +kernel
theorem dX7_init_99 : decode cX7_init 99 = .ok (.aload_n 0, 1) := by decide +kernel
theorem dX7_init_100 : decode cX7_init 100 = .ok (.bipush 7, 2) := by decide +kernel
theorem dX7_init_102 : decode cX7_init 102 = .ok (.newarray .int, 2) := by decide +kernel
theorem dX7_init_104 : decode cX7_init 104 = .ok (.putfield 46, 3) := by decide +kernel
theorem dX7_init_107 : decode cX7_init 107 = .ok (.aload_n 0, 1) := by decide +kernel
theorem dX7_init_108 : decode cX7_init 108 = .ok (.iconst 2, 1) := by decide +kernel
theorem dX7_init_109 : decode cX7_init 109 = .ok (.newarray .int, 2) := by decide +kernel
theorem dX7_init_111 : decode cX7_init 111 = .ok (.putfield 49, 3) := by decide +kernel
theorem dX7_init_114 : decode cX7_init 114 = .ok (.aload_n 0, 1) := by decide +kernel
theorem dX7_init_115 : decode cX7_init 115 = .ok (.iconst 2, 1) := by decide +kernel
theorem dX7_init_116 : decode cX7_init 116 = .ok (.newarray .int, 2) := by decide +kernel
theorem dX7_init_118 : decode cX7_init 118 = .ok (.putfield 52, 3) := by decide +kernel
theorem dX7_init_121 : decode cX7_init 121 = .ok (.aload_n 0, 1) := by decide +kernel
theorem dX7_init_122 : decode cX7_init 122 = .ok (.bipush 7, 2) := by decide +kernel
theorem dX7_init_124 : decode cX7_init 124 = .ok (.newarray .int, 2) := by decide +kernel
theorem dX7_init_126 : decode cX7_init 126 = .ok (.putfield 55, 3) := by decide +kernel
theorem dX7_init_129 : decode cX7_init 129 = .ok (.aload_n 0, 1) := by decide +kernel
theorem dX7_init_130 : decode cX7_init 130 = .ok (.bipush 7, 2) := by decide +kernel
theorem dX7_init_132 : decode cX7_init 132 = .ok (.newarray .int, 2) := by decide +kernel
theorem dX7_init_134 : decode cX7_init 134 = .ok (.putfield 58, 3) := by decide +kernel
theorem dX7_init_137 : decode cX7_init 137 = .ok (.aload_n 0, 1) := by decide +kernel
theorem dX7_init_138 : decode cX7_init 138 = .ok (.bipush 7, 2) := by decide +kernel
theorem dX7_init_140 : decode cX7_init 140 = .ok (.newarray .int, 2) := by decide +kernel
theorem dX7_init_142 : decode cX7_init 142 = .ok (.putfield 61, 3) := by decide +kernel
theorem dX7_init_145 : decode cX7_init 145 = .ok (.aload_n 0, 1) := by decide +kernel
theorem dX7_init_146 : decode cX7_init 146 = .ok (.bipush 7, 2) := by decide +kernel
theorem dX7_init_148 : decode cX7_init 148 = .ok (.newarray .int, 2) := by decide +kernel
theorem dX7_init_150 : decode cX7_init 150 = .ok (.putfield 64, 3) := by decide +kernel
theorem dX7_init_153 : decode cX7_init 153 = .ok (.aload_n 0, 1) := by decide +kernel
theorem dX7_init_154 : decode cX7_init 154 = .ok (.bipush 12, 2) := by decide +kernel
theorem dX7_init_156 : decode cX7_init 156 = .ok (.newarray .int, 2) := by decide +kernel
theorem dX7_init_158 : decode cX7_init 158 = .ok (.putfield 67, 3) := by decide +kernel
theorem dX7_init_161 : decode cX7_init 161 = .ok (.aload_n 0, 1) := by decide +kernel
theorem dX7_init_162 : decode cX7_init 162 = .ok (.bipush 7, 2) := by decide +kernel
theorem dX7_init_164 : decode cX7_init 164 = .ok (.newarray .int, 2) := by decide +kernel
theorem dX7_init_166 : decode cX7_init 166 = .ok (.putfield 70, 3) := by decide +kernel
theorem dX7_init_169 : decode cX7_init 169 = .ok (.aload_n 0, 1) := by decide +kernel
theorem dX7_init_170 : decode cX7_init 170 = .ok (.bipush 7, 2) := by decide +kernel
theorem dX7_init_172 : decode cX7_init 172 = .ok (.newarray .int, 2) := by decide +kernel
theorem dX7_init_174 : decode cX7_init 174 = .ok (.putfield 73, 3) := by decide +kernel
theorem dX7_init_177 : decode cX7_init 177 = .ok (.aload_n 0, 1) := by decide +kernel
theorem dX7_init_178 : decode cX7_init 178 = .ok (.sipush 128, 3) := by decide +kernel
theorem dX7_init_181 : decode cX7_init 181 = .ok (.newarray .int, 2) := by decide +kernel
theorem dX7_init_183 : decode cX7_init 183 = .ok (.putfield 76, 3) := by decide +kernel
theorem dX7_init_186 : decode cX7_init 186 = .ok (.aload_n 0, 1) := by decide +kernel
theorem dX7_init_187 : decode cX7_init 187 = .ok (.getfield 25, 3) := by decide +kernel
theorem dX7_init_190 : decode cX7_init 190 = .ok (.iconst 0, 1) := by decide +kernel
theorem dX7_init_191 : decode cX7_init 191 = .ok (.bipush 20, 2) := by decide +kernel
theorem dX7_init_193 : decode cX7_init 193 = .ok (.iastore, 1) := by decide +kernel
theorem dX7_init_194 : decode cX7_init 194 = .ok (.aload_n 0, 1) := by decide +kernel
theorem dX7_init_195 : decode cX7_init 195 = .ok (.getfield 25, 3) := by decide +kernel
theorem dX7_init_198 : decode cX7_init 198 = .ok (.iconst 1, 1) := by decide +kernel
theorem dX7_init_199 : decode cX7_init 199 = .ok (.bipush 100, 2) := by decide +kernel
theorem dX7_init_201 : decode cX7_init 201 = .ok (.iastore, 1) := by decide +kernel
theorem dX7_init_202 : decode cX7_init 202 = .ok (.aload_n 0, 1) := by decide +kernel
theorem dX7_init_203 : decode cX7_init 203 = .ok (.getfield 25, 3) := by decide +kernel
theorem dX7_init_206 : decode cX7_init 206 = .ok (.iconst 2, 1) := by decide +kernel
theorem dX7_init_207 : decode cX7_init 207 = .ok (.iconst 3, 1) := by decide +kernel
theorem dX7_init_208 : decode cX7_init 208 = .ok (.iastore, 1) := by decide +kernel
theorem dX7_init_209 : decode cX7_init 209 = .ok (.return_, 1) := by decide +kernel
theorem dX7_no_0 : decode cX7_no 0 = .ok (.aload_n 0, 1) := by decide +kernel
theorem dX7_no_1 : decode cX7_no 1 = .ok (.getfield 37, 3) := by decide +kernel
theorem dX7_no_4 : decode cX7_no 4 = .ok (.iload_n 1, 1) := by decide +kernel
theorem dX7_no_5 : decode cX7_no 5 = .ok (.ineg, 1) := by decide +kernel
theorem dX7_no_6 : decode cX7_no 6 = .ok (.dup2, 1) := by decide +kernel
theorem dX7_no_7 : decode cX7_no 7 = .ok (.iaload, 1) := by decide +kernel
theorem dX7_no_8 : decode cX7_no 8 = .ok (.iconst 1, 1) := by decide +kernel
theorem dX7_no_9 : decode cX7_no 9 = .ok (.iadd, 1) := by decide +kernel
theorem dX7_no_10 : decode cX7_no 10 = .ok (.iastore, 1) := by decide +kernel
theorem dX7_no_11 : decode cX7_no 11 = .ok (.iload_n 1, 1) := by decide +kernel
theorem dX7_no_12 : decode cX7_no 12 = .ok (.ireturn, 1) := by decide +kernel
theorem dX7_noMuch_0 : decode cX7_noMuch 0 = .ok (.ldc 79, 2) := by decide +kernel
theorem dX7_noMuch_2 : decode cX7_noMuch 2 = .ok (.aload_n 0, 1) := by decide +kernel
theorem dX7_noMuch_3 : decode cX7_noMuch 3 = .ok (.iload_n 1, 1) := by decide +kernel
theorem dX7_noMuch_4 : decode cX7_noMuch 4 = .ok (.invokevirtual 80, 3) := by decide +kernel
theorem dX7_noMuch_7 : decode cX7_noMuch 7 = .ok (.isub, 1) := by decide +kernel
theorem dX7_noMuch_8 : decode cX7_noMuch 8 = .ok (.ireturn, 1) := by decide +kernel
theorem dX7_within_0 : decode cX7_within 0 = .ok (.iload_n 0, 1) := by decide +kernel
theorem dX7_within_1 : decode cX7_within 1 = .ok (.iload_n 1, 1) := by decide +kernel
theorem dX7_within_2 : decode cX7_within 2 = .ok (.if_icmp .lt 12, 3) := by decide +kernel
theorem dX7_within_5 : decode cX7_within 5 = .ok (.iload_n 0, 1) := by decide +kernel
theorem dX7_within_6 : decode cX7_within 6 = .ok (.iload_n 2, 1) := by decide +kernel
theorem dX7_within_7 : decode cX7_within 7 = .ok (.if_icmp .gt 7, 3) := by decide +kernel
theorem dX7_within_10 : decode cX7_within 10 = .ok (.iconst 1, 1) := by decide +kernel
theorem dX7_within_11 : decode cX7_within 11 = .ok (.goto 4, 3) := by decide +kernel
theorem dX7_within_14 : decode cX7_within 14 = .ok (.iconst 0, 1) := by decide +kernel
theorem dX7_within_15 : decode cX7_within 15 = .ok (.ireturn, 1) := by decide +kernel
theorem dX7_isGoer_0 : decode cX7_isGoer 0 = .ok (.iload_n 1, 1) := by decide +kernel
theorem dX7_isGoer_1 : decode cX7_isGoer 1 = .ok (.iconst 0, 1) := by decide +kernel
theorem dX7_isGoer_2 : decode cX7_isGoer 2 = .ok (.aload_n 0, 1) := by decide +kernel
theorem dX7_isGoer_3 : decode cX7_isGoer 3 = .ok (.getfield 84, 3) := by decide +kernel
theorem dX7_isGoer_6 : decode cX7_isGoer 6 = .ok (.iconst 1, 1) := by decide +kernel
theorem dX7_isGoer_7 : decode cX7_isGoer 7 = .ok (.isub, 1) := by decide +kernel
theorem dX7_isGoer_8 : decode cX7_isGoer 8 = .ok (.invokestatic 88, 3) := by decide +kernel
theorem dX7_isGoer_11 : decode cX7_isGoer 11 = .ok (.ireturn, 1) := by decide +kernel
theorem dX7_isCell_0 : decode cX7_isCell 0 = .ok (.iload_n 0, 1) := by decide +kernel
theorem dX7_isCell_1 : decode cX7_isCell 1 = .ok (.iconst 0, 1) := by decide +kernel
theorem dX7_isCell_2 : decode cX7_isCell 2 = .ok (.bipush 39, 2) := by decide +kernel
theorem dX7_isCell_4 : decode cX7_isCell 4 = .ok (.invokestatic 88, 3) := by decide +kernel
theorem dX7_isCell_7 : decode cX7_isCell 7 = .ok (.ireturn, 1) := by decide +kernel
theorem dX7_isHour_0 : decode cX7_isHour 0 = .ok (.iload_n 0, 1) := by decide +kernel
theorem dX7_isHour_1 : decode cX7_isHour 1 = .ok (.iconst 0, 1) := by decide +kernel
theorem dX7_isHour_2 : decode cX7_isHour 2 = .ok (.bipush 11, 2) := by decide +kernel
theorem dX7_isHour_4 : decode cX7_isHour 4 = .ok (.invokestatic 88, 3) := by decide +kernel
theorem dX7_isHour_7 : decode cX7_isHour 7 = .ok (.ireturn, 1) := by decide +kernel
theorem dX7_mostOf_0 : decode cX7_mostOf 0 = .ok (.iload_n 0, 1) := by decide +kernel
theorem dX7_mostOf_1 : decode cX7_mostOf 1 = .ok (.ifCond .ne 8, 3) := by decide +kernel
theorem dX7_mostOf_4 : decode cX7_mostOf 4 = .ok (.bipush 39, 2) := by decide +kernel
theorem dX7_mostOf_6 : decode cX7_mostOf 6 = .ok (.goto 16, 3) := by decide +kernel
theorem dX7_mostOf_9 : decode cX7_mostOf 9 = .ok (.iload_n 0, 1) := by decide +kernel
theorem dX7_mostOf_10 : decode cX7_mostOf 10 = .ok (.iconst 1, 1) := by decide +kernel
theorem dX7_mostOf_11 : decode cX7_mostOf 11 = .ok (.if_icmp .ne 9, 3) := by decide +kernel
theorem dX7_mostOf_14 : decode cX7_mostOf 14 = .ok (.sipush 200, 3) := by decide +kernel
theorem dX7_mostOf_17 : decode cX7_mostOf 17 = .ok (.goto 5, 3) := by decide +kernel
theorem dX7_mostOf_20 : decode cX7_mostOf 20 = .ok (.bipush 9, 2) := by decide +kernel
theorem dX7_mostOf_22 : decode cX7_mostOf 22 = .ok (.ireturn, 1) := by decide +kernel
theorem dX7_letter_0 : decode cX7_letter 0 = .ok (.iload_n 1, 1) := by decide +kernel
theorem dX7_letter_1 : decode cX7_letter 1 = .ok (.ifCond .ge 10, 3) := by decide +kernel
theorem dX7_letter_4 : decode cX7_letter 4 = .ok (.aload_n 0, 1) := by decide +kernel
theorem dX7_letter_5 : decode cX7_letter 5 = .ok (.bipush (-4), 2) := by decide +kernel
theorem dX7_letter_7 : decode cX7_letter 7 = .ok (.invokevirtual 80, 3) := by decide +kernel
theorem dX7_letter_10 : decode cX7_letter 10 = .ok (.ireturn, 1) := by decide +kernel
theorem dX7_letter_11 : decode cX7_letter 11 = .ok (.iload_n 1, 1) := by decide +kernel
theorem dX7_letter_12 : decode cX7_letter 12 = .ok (.sipush 255, 3) := by decide +kernel
theorem dX7_letter_15 : decode cX7_letter 15 = .ok (.if_icmp .gt 12, 3) := by decide +kernel
theorem dX7_letter_18 : decode cX7_letter 18 = .ok (.aload_n 0, 1) := by decide +kernel
theorem dX7_letter_19 : decode cX7_letter 19 = .ok (.getfield 92, 3) := by decide +kernel
theorem dX7_letter_22 : decode cX7_letter 22 = .ok (.bipush 96, 2) := by decide +kernel
theorem dX7_letter_24 : decode cX7_letter 24 = .ok (.if_icmp .ne 10, 3) := by decide +kernel
theorem dX7_letter_27 : decode cX7_letter 27 = .ok (.aload_n 0, 1) := by decide +kernel
theorem dX7_letter_28 : decode cX7_letter 28 = .ok (.bipush (-6), 2) := by decide +kernel
theorem dX7_letter_30 : decode cX7_letter 30 = .ok (.invokevirtual 80, 3) := by decide +kernel
theorem dX7_letter_33 : decode cX7_letter 33 = .ok (.ireturn, 1) := by decide +kernel
theorem dX7_letter_34 : decode cX7_letter 34 = .ok (.aload_n 0, 1) := by decide +kernel
theorem dX7_letter_35 : decode cX7_letter 35 = .ok (.getfield 28, 3) := by decide +kernel
theorem dX7_letter_38 : decode cX7_letter 38 = .ok (.aload_n 0, 1) := by decide +kernel
theorem dX7_letter_39 : decode cX7_letter 39 = .ok (.dup, 1) := by decide +kernel
theorem dX7_letter_40 : decode cX7_letter 40 = .ok (.getfield 92, 3) := by decide +kernel
theorem dX7_letter_43 : decode cX7_letter 43 = .ok (.dup_x1, 1) := by decide +kernel
theorem dX7_letter_44 : decode cX7_letter 44 = .ok (.iconst 1, 1) := by decide +kernel
theorem dX7_letter_45 : decode cX7_letter 45 = .ok (.iadd, 1) := by decide +kernel
theorem dX7_letter_46 : decode cX7_letter 46 = .ok (.putfield 92, 3) := by decide +kernel
theorem dX7_letter_49 : decode cX7_letter 49 = .ok (.iload_n 1, 1) := by decide +kernel
theorem dX7_letter_50 : decode cX7_letter 50 = .ok (.iastore, 1) := by decide +kernel
theorem dX7_letter_51 : decode cX7_letter 51 = .ok (.aload_n 0, 1) := by decide +kernel
theorem dX7_letter_52 : decode cX7_letter 52 = .ok (.getfield 92, 3) := by decide +kernel
theorem dX7_letter_55 : decode cX7_letter 55 = .ok (.ireturn, 1) := by decide +kernel
theorem dX7_is_0 : decode cX7_is 0 = .ok (.aload_n 0, 1) := by decide +kernel
theorem dX7_is_1 : decode cX7_is 1 = .ok (.getfield 95, 3) := by decide +kernel
theorem dX7_is_4 : decode cX7_is 4 = .ok (.aload_n 0, 1) := by decide +kernel
theorem dX7_is_5 : decode cX7_is 5 = .ok (.getfield 92, 3) := by decide +kernel
theorem dX7_is_8 : decode cX7_is 8 = .ok (.if_icmp .eq 16, 3) := by decide +kernel
theorem dX7_is_11 : decode cX7_is 11 = .ok (.aload_n 0, 1) := by decide +kernel
theorem dX7_is_12 : decode cX7_is 12 = .ok (.getfield 28, 3) := by decide +kernel
theorem dX7_is_15 : decode cX7_is 15 = .ok (.aload_n 0, 1) := by decide +kernel
theorem dX7_is_16 : decode cX7_is 16 = .ok (.getfield 95, 3) := by decide +kernel
theorem dX7_is_19 : decode cX7_is 19 = .ok (.iaload, 1) := by decide +kernel
theorem dX7_is_20 : decode cX7_is 20 = .ok (.iload_n 1, 1) := by decide +kernel
theorem dX7_is_21 : decode cX7_is 21 = .ok (.if_icmp .eq 5, 3) := by decide +kernel
theorem dX7_is_24 : decode cX7_is 24 = .ok (.iconst 0, 1) := by decide +kernel
theorem dX7_is_25 : decode cX7_is 25 = .ok (.ireturn, 1) := by decide +kernel
theorem dX7_is_26 : decode cX7_is 26 = .ok (.aload_n 0, 1) := by decide +kernel
theorem dX7_is_27 : decode cX7_is 27 = .ok (.dup, 1) := by decide +kernel
theorem dX7_is_28 : decode cX7_is 28 = .ok (.getfield 95, 3) := by decide +kernel
theorem dX7_is_31 : decode cX7_is 31 = .ok (.iconst 1, 1) := by decide +kernel
theorem dX7_is_32 : decode cX7_is 32 = .ok (.iadd, 1) := by decide +kernel
theorem dX7_is_33 : decode cX7_is 33 = .ok (.putfield 95, 3) := by decide +kernel
theorem dX7_is_36 : decode cX7_is 36 = .ok (.iconst 1, 1) := by decide +kernel
theorem dX7_is_37 : decode cX7_is 37 = .ok (.ireturn, 1) := by decide +kernel
theorem dX7_digits_0 : decode cX7_digits 0 = .ok (.iconst 0, 1) := by decide +kernel
theorem dX7_digits_1 : decode cX7_digits 1 = .ok (.istore_n 2, 1) := by decide +kernel
theorem dX7_digits_2 : decode cX7_digits 2 = .ok (.iload_n 2, 1) := by decide +kernel
theorem dX7_digits_3 : decode cX7_digits 3 = .ok (.iload_n 1, 1) := by decide +kernel
theorem dX7_digits_4 : decode cX7_digits 4 = .ok (.if_icmp .ge 75, 3) := by decide +kernel
theorem dX7_digits_7 : decode cX7_digits 7 = .ok (.aload_n 0, 1) := by decide +kernel
theorem dX7_digits_8 : decode cX7_digits 8 = .ok (.getfield 95, 3) := by decide +kernel
theorem dX7_digits_11 : decode cX7_digits 11 = .ok (.aload_n 0, 1) := by decide +kernel
theorem dX7_digits_12 : decode cX7_digits 12 = .ok (.getfield 92, 3) := by decide +kernel
theorem dX7_digits_15 : decode cX7_digits 15 = .ok (.if_icmp .eq 31, 3) := by decide +kernel
theorem dX7_digits_18 : decode cX7_digits 18 = .ok (.aload_n 0, 1) := by decide +kernel
theorem dX7_digits_19 : decode cX7_digits 19 = .ok (.getfield 28, 3) := by decide +kernel
theorem dX7_digits_22 : decode cX7_digits 22 = .ok (.aload_n 0, 1) := by decide +kernel
theorem dX7_digits_23 : decode cX7_digits 23 = .ok (.getfield 95, 3) := by decide +kernel
theorem dX7_digits_26 : decode cX7_digits 26 = .ok (.iaload, 1) := by decide +kernel
theorem dX7_digits_27 : decode cX7_digits 27 = .ok (.bipush 48, 2) := by decide +kernel
theorem dX7_digits_29 : decode cX7_digits 29 = .ok (.if_icmp .lt 17, 3) := by decide +kernel
theorem dX7_digits_32 : decode cX7_digits 32 = .ok (.aload_n 0, 1) := by decide +kernel
theorem dX7_digits_33 : decode cX7_digits 33 = .ok (.getfield 28, 3) := by decide +kernel
theorem dX7_digits_36 : decode cX7_digits 36 = .ok (.aload_n 0, 1) := by decide +kernel
theorem dX7_digits_37 : decode cX7_digits 37 = .ok (.getfield 95, 3) := by decide +kernel
theorem dX7_digits_40 : decode cX7_digits 40 = .ok (.iaload, 1) := by decide +kernel
theorem dX7_digits_41 : decode cX7_digits 41 = .ok (.bipush 57, 2) := by decide +kernel
theorem dX7_digits_43 : decode cX7_digits 43 = .ok (.if_icmp .le 5, 3) := by decide +kernel
theorem dX7_digits_46 : decode cX7_digits 46 = .ok (.iconst 0, 1) := by decide +kernel
theorem dX7_digits_47 : decode cX7_digits 47 = .ok (.ireturn, 1) := by decide +kernel
theorem dX7_digits_48 : decode cX7_digits 48 = .ok (.aload_n 0, 1) := by decide +kernel
theorem dX7_digits_49 : decode cX7_digits 49 = .ok (.getfield 31, 3) := by decide +kernel
theorem dX7_digits_52 : decode cX7_digits 52 = .ok (.iload_n 2, 1) := by decide +kernel
theorem dX7_digits_53 : decode cX7_digits 53 = .ok (.aload_n 0, 1) := by decide +kernel
theorem dX7_digits_54 : decode cX7_digits 54 = .ok (.getfield 28, 3) := by decide +kernel
theorem dX7_digits_57 : decode cX7_digits 57 = .ok (.aload_n 0, 1) := by decide +kernel
theorem dX7_digits_58 : decode cX7_digits 58 = .ok (.dup, 1) := by decide +kernel
theorem dX7_digits_59 : decode cX7_digits 59 = .ok (.getfield 95, 3) := by decide +kernel
theorem dX7_digits_62 : decode cX7_digits 62 = .ok (.dup_x1, 1) := by decide +kernel
theorem dX7_digits_63 : decode cX7_digits 63 = .ok (.iconst 1, 1) := by decide +kernel
theorem dX7_digits_64 : decode cX7_digits 64 = .ok (.iadd, 1) := by decide +kernel
theorem dX7_digits_65 : decode cX7_digits 65 = .ok (.putfield 95, 3) := by decide +kernel
theorem dX7_digits_68 : decode cX7_digits 68 = .ok (.iaload, 1) := by decide +kernel
theorem dX7_digits_69 : decode cX7_digits 69 = .ok (.bipush 48, 2) := by decide +kernel
theorem dX7_digits_71 : decode cX7_digits 71 = .ok (.isub, 1) := by decide +kernel
theorem dX7_digits_72 : decode cX7_digits 72 = .ok (.iastore, 1) := by decide +kernel
theorem dX7_digits_73 : decode cX7_digits 73 = .ok (.iinc 2 1, 3) := by decide +kernel
theorem dX7_digits_76 : decode cX7_digits 76 = .ok (.goto (-74), 3) := by decide +kernel
theorem dX7_digits_79 : decode cX7_digits 79 = .ok (.iconst 1, 1) := by decide +kernel
theorem dX7_digits_80 : decode cX7_digits 80 = .ok (.ireturn, 1) := by decide +kernel
theorem dX7_two_0 : decode cX7_two 0 = .ok (.bipush 10, 2) := by decide +kernel
theorem dX7_two_2 : decode cX7_two 2 = .ok (.aload_n 0, 1) := by decide +kernel
theorem dX7_two_3 : decode cX7_two 3 = .ok (.getfield 31, 3) := by decide +kernel
theorem dX7_two_6 : decode cX7_two 6 = .ok (.iload_n 1, 1) := by decide +kernel
theorem dX7_two_7 : decode cX7_two 7 = .ok (.iaload, 1) := by decide +kernel
theorem dX7_two_8 : decode cX7_two 8 = .ok (.imul, 1) := by decide +kernel
theorem dX7_two_9 : decode cX7_two 9 = .ok (.aload_n 0, 1) := by decide +kernel
theorem dX7_two_10 : decode cX7_two 10 = .ok (.getfield 31, 3) := by decide +kernel
theorem dX7_two_13 : decode cX7_two 13 = .ok (.iload_n 1, 1) := by decide +kernel
theorem dX7_two_14 : decode cX7_two 14 = .ok (.iconst 1, 1) := by decide +kernel
theorem dX7_two_15 : decode cX7_two 15 = .ok (.iadd, 1) := by decide +kernel
theorem dX7_two_16 : decode cX7_two 16 = .ok (.iaload, 1) := by decide +kernel
theorem dX7_two_17 : decode cX7_two 17 = .ok (.iadd, 1) := by decide +kernel
theorem dX7_two_18 : decode cX7_two 18 = .ok (.ireturn, 1) := by decide +kernel
theorem dX7_statement_0 : decode cX7_statement 0 = .ok (.aload_n 0, 1) := by decide +kernel
theorem dX7_statement_1 : decode cX7_statement 1 = .ok (.bipush 103, 2) := by decide +kernel
theorem dX7_statement_3 : decode cX7_statement 3 = .ok (.invokevirtual 98, 3) := by decide +kernel
theorem dX7_statement_6 : decode cX7_statement 6 = .ok (.ifCond .eq 201, 3) := by decide +kernel
theorem dX7_statement_9 : decode cX7_statement 9 = .ok (.aload_n 0, 1) := by decide +kernel
theorem dX7_statement_10 : decode cX7_statement 10 = .ok (.getfield 95, 3) := by decide +kernel
theorem dX7_statement_13 : decode cX7_statement 13 = .ok (.aload_n 0, 1) := by decide +kernel
theorem dX7_statement_14 : decode cX7_statement 14 = .ok (.getfield 92, 3) := by decide +kernel
theorem dX7_statement_17 : decode cX7_statement 17 = .ok (.if_icmp .ge 32, 3) := by decide +kernel
theorem dX7_statement_20 : decode cX7_statement 20 = .ok (.aload_n 0, 1) := by decide +kernel
theorem dX7_statement_21 : decode cX7_statement 21 = .ok (.getfield 28, 3) := by decide +kernel
theorem dX7_statement_24 : decode cX7_statement 24 = .ok (.aload_n 0, 1) := by decide +kernel
theorem dX7_statement_25 : decode cX7_statement 25 = .ok (.getfield 95, 3) := by decide +kernel
theorem dX7_statement_28 : decode cX7_statement 28 = .ok (.iaload, 1) := by decide +kernel
theorem dX7_statement_29 : decode cX7_statement 29 = .ok (.ifCond .le 20, 3) := by decide +kernel
theorem dX7_statement_32 : decode cX7_statement 32 = .ok (.ldc 102, 2) := by decide +kernel
theorem dX7_statement_34 : decode cX7_statement 34 = .ok (.aload_n 0, 1) := by decide +kernel
theorem dX7_statement_35 : decode cX7_statement 35 = .ok (.getfield 28, 3) := by decide +kernel
theorem dX7_statement_38 : decode cX7_statement 38 = .ok (.aload_n 0, 1) := by decide +kernel
theorem dX7_statement_39 : decode cX7_statement 39 = .ok (.getfield 95, 3) := by decide +kernel
theorem dX7_statement_42 : decode cX7_statement 42 = .ok (.iaload, 1) := by decide +kernel
theorem dX7_statement_43 : decode cX7_statement 43 = .ok (.invokevirtual 104, 3) := by decide +kernel
theorem dX7_statement_46 : decode cX7_statement 46 = .ok (.goto 4, 3) := by decide +kernel
theorem dX7_statement_49 : decode cX7_statement 49 = .ok (.iconst (-1), 1) := by decide +kernel
theorem dX7_statement_50 : decode cX7_statement 50 = .ok (.istore_n 2, 1) := by decide +kernel
theorem dX7_statement_51 : decode cX7_statement 51 = .ok (.iload_n 2, 1) := by decide +kernel
theorem dX7_statement_52 : decode cX7_statement 52 = .ok (.ifCond .ge 5, 3) := by decide +kernel
theorem dX7_statement_55 : decode cX7_statement 55 = .ok (.iconst (-1), 1) := by decide +kernel
theorem dX7_statement_56 : decode cX7_statement 56 = .ok (.ireturn, 1) := by decide +kernel
theorem dX7_statement_57 : decode cX7_statement 57 = .ok (.aload_n 0, 1) := by decide +kernel
theorem dX7_statement_58 : decode cX7_statement 58 = .ok (.dup, 1) := by decide +kernel
theorem dX7_statement_59 : decode cX7_statement 59 = .ok (.getfield 95, 3) := by decide +kernel
theorem dX7_statement_62 : decode cX7_statement 62 = .ok (.iconst 1, 1) := by decide +kernel
theorem dX7_statement_63 : decode cX7_statement 63 = .ok (.iadd, 1) := by decide +kernel
theorem dX7_statement_64 : decode cX7_statement 64 = .ok (.putfield 95, 3) := by decide +kernel
theorem dX7_statement_67 : decode cX7_statement 67 = .ok (.aload_n 0, 1) := by decide +kernel
theorem dX7_statement_68 : decode cX7_statement 68 = .ok (.bipush 7, 2) := by decide +kernel
theorem dX7_statement_70 : decode cX7_statement 70 = .ok (.invokevirtual 109, 3) := by decide +kernel
theorem dX7_statement_73 : decode cX7_statement 73 = .ok (.ifCond .ne 5, 3) := by decide +kernel
theorem dX7_statement_76 : decode cX7_statement 76 = .ok (.iconst (-1), 1) := by decide +kernel
theorem dX7_statement_77 : decode cX7_statement 77 = .ok (.ireturn, 1) := by decide +kernel
theorem dX7_statement_78 : decode cX7_statement 78 = .ok (.iload_n 1, 1) := by decide +kernel
theorem dX7_statement_79 : decode cX7_statement 79 = .ok (.ifCond .ne 5, 3) := by decide +kernel
theorem dX7_statement_82 : decode cX7_statement 82 = .ok (.iconst 1, 1) := by decide +kernel
theorem dX7_statement_83 : decode cX7_statement 83 = .ok (.ireturn, 1) := by decide +kernel
theorem dX7_statement_84 : decode cX7_statement 84 = .ok (.aload_n 0, 1) := by decide +kernel
theorem dX7_statement_85 : decode cX7_statement 85 = .ok (.iconst 1, 1) := by decide +kernel
theorem dX7_statement_86 : decode cX7_statement 86 = .ok (.invokevirtual 112, 3) := by decide +kernel
theorem dX7_statement_89 : decode cX7_statement 89 = .ok (.invokestatic 115, 3) := by decide +kernel
theorem dX7_statement_92 : decode cX7_statement 92 = .ok (.ifCond .eq 34, 3) := by decide +kernel
theorem dX7_statement_95 : decode cX7_statement 95 = .ok (.aload_n 0, 1) := by decide +kernel
theorem dX7_statement_96 : decode cX7_statement 96 = .ok (.iconst 3, 1) := by decide +kernel
theorem dX7_statement_97 : decode cX7_statement 97 = .ok (.invokevirtual 112, 3) := by decide +kernel
theorem dX7_statement_100 : decode cX7_statement 100 = .ok (.invokestatic 115, 3) := by decide +kernel
theorem dX7_statement_103 : decode cX7_statement 103 = .ok (.ifCond .eq 23, 3) := by decide +kernel
theorem dX7_statement_106 : decode cX7_statement 106 = .ok (.aload_n 0, 1) := by decide +kernel
theorem dX7_statement_107 : decode cX7_statement 107 = .ok (.iconst 5, 1) := by decide +kernel
theorem dX7_statement_108 : decode cX7_statement 108 = .ok (.invokevirtual 112, 3) := by decide +kernel
theorem dX7_statement_111 : decode cX7_statement 111 = .ok (.invokestatic 118, 3) := by decide +kernel
theorem dX7_statement_114 : decode cX7_statement 114 = .ok (.ifCond .eq 12, 3) := by decide +kernel
theorem dX7_statement_117 : decode cX7_statement 117 = .ok (.aload_n 0, 1) := by decide +kernel
theorem dX7_statement_118 : decode cX7_statement 118 = .ok (.getfield 84, 3) := by decide +kernel
theorem dX7_statement_121 : decode cX7_statement 121 = .ok (.bipush 7, 2) := by decide +kernel
theorem dX7_statement_123 : decode cX7_statement 123 = .ok (.if_icmp .ne 5, 3) := by decide +kernel
theorem dX7_statement_126 : decode cX7_statement 126 = .ok (.iconst 0, 1) := by decide +kernel
theorem dX7_statement_127 : decode cX7_statement 127 = .ok (.ireturn, 1) := by decide +kernel
theorem dX7_statement_128 : decode cX7_statement 128 = .ok (.aload_n 0, 1) := by decide +kernel
theorem dX7_statement_129 : decode cX7_statement 129 = .ok (.getfield 7, 3) := by decide +kernel
theorem dX7_statement_132 : decode cX7_statement 132 = .ok (.aload_n 0, 1) := by decide +kernel
theorem dX7_statement_133 : decode cX7_statement 133 = .ok (.getfield 84, 3) := by decide +kernel
theorem dX7_statement_136 : decode cX7_statement 136 = .ok (.iload_n 2, 1) := by decide +kernel
theorem dX7_statement_137 : decode cX7_statement 137 = .ok (.iastore, 1) := by decide +kernel
theorem dX7_statement_138 : decode cX7_statement 138 = .ok (.aload_n 0, 1) := by decide +kernel
theorem dX7_statement_139 : decode cX7_statement 139 = .ok (.getfield 13, 3) := by decide +kernel
theorem dX7_statement_142 : decode cX7_statement 142 = .ok (.aload_n 0, 1) := by decide +kernel
theorem dX7_statement_143 : decode cX7_statement 143 = .ok (.getfield 84, 3) := by decide +kernel
theorem dX7_statement_146 : decode cX7_statement 146 = .ok (.aload_n 0, 1) := by decide +kernel
theorem dX7_statement_147 : decode cX7_statement 147 = .ok (.getfield 31, 3) := by decide +kernel
theorem dX7_statement_150 : decode cX7_statement 150 = .ok (.iconst 0, 1) := by decide +kernel
theorem dX7_statement_151 : decode cX7_statement 151 = .ok (.iaload, 1) := by decide +kernel
theorem dX7_statement_152 : decode cX7_statement 152 = .ok (.iastore, 1) := by decide +kernel
theorem dX7_statement_153 : decode cX7_statement 153 = .ok (.aload_n 0, 1) := by decide +kernel
theorem dX7_statement_154 : decode cX7_statement 154 = .ok (.getfield 16, 3) := by decide +kernel
theorem dX7_statement_157 : decode cX7_statement 157 = .ok (.aload_n 0, 1) := by decide +kernel
theorem dX7_statement_158 : decode cX7_statement 158 = .ok (.getfield 84, 3) := by decide +kernel
theorem dX7_statement_161 : decode cX7_statement 161 = .ok (.aload_n 0, 1) := by decide +kernel
theorem dX7_statement_162 : decode cX7_statement 162 = .ok (.iconst 1, 1) := by decide +kernel
theorem dX7_statement_163 : decode cX7_statement 163 = .ok (.invokevirtual 112, 3) := by decide +kernel
theorem dX7_statement_166 : decode cX7_statement 166 = .ok (.iastore, 1) := by decide +kernel
theorem dX7_statement_167 : decode cX7_statement 167 = .ok (.aload_n 0, 1) := by decide +kernel
theorem dX7_statement_168 : decode cX7_statement 168 = .ok (.getfield 19, 3) := by decide +kernel
theorem dX7_statement_171 : decode cX7_statement 171 = .ok (.aload_n 0, 1) := by decide +kernel
theorem dX7_statement_172 : decode cX7_statement 172 = .ok (.getfield 84, 3) := by decide +kernel
theorem dX7_statement_175 : decode cX7_statement 175 = .ok (.aload_n 0, 1) := by decide +kernel
theorem dX7_statement_176 : decode cX7_statement 176 = .ok (.iconst 3, 1) := by decide +kernel
theorem dX7_statement_177 : decode cX7_statement 177 = .ok (.invokevirtual 112, 3) := by decide +kernel
theorem dX7_statement_180 : decode cX7_statement 180 = .ok (.iastore, 1) := by decide +kernel
theorem dX7_statement_181 : decode cX7_statement 181 = .ok (.aload_n 0, 1) := by decide +kernel
theorem dX7_statement_182 : decode cX7_statement 182 = .ok (.getfield 22, 3) := by decide +kernel
theorem dX7_statement_185 : decode cX7_statement 185 = .ok (.aload_n 0, 1) := by decide +kernel
theorem dX7_statement_186 : decode cX7_statement 186 = .ok (.getfield 84, 3) := by decide +kernel
theorem dX7_statement_189 : decode cX7_statement 189 = .ok (.aload_n 0, 1) := by decide +kernel
theorem dX7_statement_190 : decode cX7_statement 190 = .ok (.iconst 5, 1) := by decide +kernel
theorem dX7_statement_191 : decode cX7_statement 191 = .ok (.invokevirtual 112, 3) := by decide +kernel
theorem dX7_statement_194 : decode cX7_statement 194 = .ok (.iastore, 1) := by decide +kernel
theorem dX7_statement_195 : decode cX7_statement 195 = .ok (.aload_n 0, 1) := by decide +kernel
theorem dX7_statement_196 : decode cX7_statement 196 = .ok (.dup, 1) := by decide +kernel
theorem dX7_statement_197 : decode cX7_statement 197 = .ok (.getfield 84, 3) := by decide +kernel
theorem dX7_statement_200 : decode cX7_statement 200 = .ok (.iconst 1, 1) := by decide +kernel
theorem dX7_statement_201 : decode cX7_statement 201 = .ok (.iadd, 1) := by decide +kernel
theorem dX7_statement_202 : decode cX7_statement 202 = .ok (.putfield 84, 3) := by decide +kernel
theorem dX7_statement_205 : decode cX7_statement 205 = .ok (.iconst 1, 1) := by decide +kernel
theorem dX7_statement_206 : decode cX7_statement 206 = .ok (.ireturn, 1) := by decide +kernel
theorem dX7_statement_207 : decode cX7_statement 207 = .ok (.aload_n 0, 1) := by decide +kernel
theorem dX7_statement_208 : decode cX7_statement 208 = .ok (.bipush 112, 2) := by decide +kernel
theorem dX7_statement_210 : decode cX7_statement 210 = .ok (.invokevirtual 98, 3) := by decide +kernel
theorem dX7_statement_213 : decode cX7_statement 213 = .ok (.ifCond .eq 45, 3) := by decide +kernel
theorem dX7_statement_216 : decode cX7_statement 216 = .ok (.aload_n 0, 1) := by decide +kernel
theorem dX7_statement_217 : decode cX7_statement 217 = .ok (.iconst 2, 1) := by decide +kernel
theorem dX7_statement_218 : decode cX7_statement 218 = .ok (.invokevirtual 109, 3) := by decide +kernel
theorem dX7_statement_221 : decode cX7_statement 221 = .ok (.ifCond .ne 5, 3) := by decide +kernel
theorem dX7_statement_224 : decode cX7_statement 224 = .ok (.iconst (-1), 1) := by decide +kernel
theorem dX7_statement_225 : decode cX7_statement 225 = .ok (.ireturn, 1) := by decide +kernel
theorem dX7_statement_226 : decode cX7_statement 226 = .ok (.iload_n 1, 1) := by decide +kernel
theorem dX7_statement_227 : decode cX7_statement 227 = .ok (.ifCond .ne 5, 3) := by decide +kernel
theorem dX7_statement_230 : decode cX7_statement 230 = .ok (.iconst 1, 1) := by decide +kernel
theorem dX7_statement_231 : decode cX7_statement 231 = .ok (.ireturn, 1) := by decide +kernel
theorem dX7_statement_232 : decode cX7_statement 232 = .ok (.aload_n 0, 1) := by decide +kernel
theorem dX7_statement_233 : decode cX7_statement 233 = .ok (.iconst 0, 1) := by decide +kernel
theorem dX7_statement_234 : decode cX7_statement 234 = .ok (.invokevirtual 112, 3) := by decide +kernel
theorem dX7_statement_237 : decode cX7_statement 237 = .ok (.invokestatic 115, 3) := by decide +kernel
theorem dX7_statement_240 : decode cX7_statement 240 = .ok (.ifCond .ne 5, 3) := by decide +kernel
theorem dX7_statement_243 : decode cX7_statement 243 = .ok (.iconst 0, 1) := by decide +kernel
theorem dX7_statement_244 : decode cX7_statement 244 = .ok (.ireturn, 1) := by decide +kernel
theorem dX7_statement_245 : decode cX7_statement 245 = .ok (.aload_n 0, 1) := by decide +kernel
theorem dX7_statement_246 : decode cX7_statement 246 = .ok (.getfield 25, 3) := by decide +kernel
theorem dX7_statement_249 : decode cX7_statement 249 = .ok (.iconst 0, 1) := by decide +kernel
theorem dX7_statement_250 : decode cX7_statement 250 = .ok (.aload_n 0, 1) := by decide +kernel
theorem dX7_statement_251 : decode cX7_statement 251 = .ok (.iconst 0, 1) := by decide +kernel
theorem dX7_statement_252 : decode cX7_statement 252 = .ok (.invokevirtual 112, 3) := by decide +kernel
theorem dX7_statement_255 : decode cX7_statement 255 = .ok (.iastore, 1) := by decide +kernel
theorem dX7_statement_256 : decode cX7_statement 256 = .ok (.iconst 1, 1) := by decide +kernel
theorem dX7_statement_257 : decode cX7_statement 257 = .ok (.ireturn, 1) := by decide +kernel
theorem dX7_statement_258 : decode cX7_statement 258 = .ok (.aload_n 0, 1) := by decide +kernel
theorem dX7_statement_259 : decode cX7_statement 259 = .ok (.bipush 111, 2) := by decide +kernel
theorem dX7_statement_261 : decode cX7_statement 261 = .ok (.invokevirtual 98, 3) := by decide +kernel
theorem dX7_statement_264 : decode cX7_statement 264 = .ok (.ifCond .eq 53, 3) := by decide +kernel
theorem dX7_statement_267 : decode cX7_statement 267 = .ok (.aload_n 0, 1) := by decide +kernel
theorem dX7_statement_268 : decode cX7_statement 268 = .ok (.iconst 3, 1) := by decide +kernel
theorem dX7_statement_269 : decode cX7_statement 269 = .ok (.invokevirtual 109, 3) := by decide +kernel
theorem dX7_statement_272 : decode cX7_statement 272 = .ok (.ifCond .ne 5, 3) := by decide +kernel
theorem dX7_statement_275 : decode cX7_statement 275 = .ok (.iconst (-1), 1) := by decide +kernel
theorem dX7_statement_276 : decode cX7_statement 276 = .ok (.ireturn, 1) := by decide +kernel
theorem dX7_statement_277 : decode cX7_statement 277 = .ok (.iload_n 1, 1) := by decide +kernel
theorem dX7_statement_278 : decode cX7_statement 278 = .ok (.ifCond .ne 5, 3) := by decide +kernel
theorem dX7_statement_281 : decode cX7_statement 281 = .ok (.iconst 1, 1) := by decide +kernel
theorem dX7_statement_282 : decode cX7_statement 282 = .ok (.ireturn, 1) := by decide +kernel
theorem dX7_statement_283 : decode cX7_statement 283 = .ok (.bipush 100, 2) := by decide +kernel
theorem dX7_statement_285 : decode cX7_statement 285 = .ok (.aload_n 0, 1) := by decide +kernel
theorem dX7_statement_286 : decode cX7_statement 286 = .ok (.getfield 31, 3) := by decide +kernel
theorem dX7_statement_289 : decode cX7_statement 289 = .ok (.iconst 0, 1) := by decide +kernel
theorem dX7_statement_290 : decode cX7_statement 290 = .ok (.iaload, 1) := by decide +kernel
theorem dX7_statement_291 : decode cX7_statement 291 = .ok (.imul, 1) := by decide +kernel
theorem dX7_statement_292 : decode cX7_statement 292 = .ok (.aload_n 0, 1) := by decide +kernel
theorem dX7_statement_293 : decode cX7_statement 293 = .ok (.iconst 1, 1) := by decide +kernel
theorem dX7_statement_294 : decode cX7_statement 294 = .ok (.invokevirtual 112, 3) := by decide +kernel
theorem dX7_statement_297 : decode cX7_statement 297 = .ok (.iadd, 1) := by decide +kernel
theorem dX7_statement_298 : decode cX7_statement 298 = .ok (.istore_n 2, 1) := by decide +kernel
theorem dX7_statement_299 : decode cX7_statement 299 = .ok (.iload_n 2, 1) := by decide +kernel
theorem dX7_statement_300 : decode cX7_statement 300 = .ok (.sipush 200, 3) := by decide +kernel
theorem dX7_statement_303 : decode cX7_statement 303 = .ok (.if_icmp .le 5, 3) := by decide +kernel
theorem dX7_statement_306 : decode cX7_statement 306 = .ok (.iconst 0, 1) := by decide +kernel
theorem dX7_statement_307 : decode cX7_statement 307 = .ok (.ireturn, 1) := by decide +kernel
theorem dX7_statement_308 : decode cX7_statement 308 = .ok (.aload_n 0, 1) := by decide +kernel
theorem dX7_statement_309 : decode cX7_statement 309 = .ok (.getfield 25, 3) := by decide +kernel
theorem dX7_statement_312 : decode cX7_statement 312 = .ok (.iconst 1, 1) := by decide +kernel
theorem dX7_statement_313 : decode cX7_statement 313 = .ok (.iload_n 2, 1) := by decide +kernel
theorem dX7_statement_314 : decode cX7_statement 314 = .ok (.iastore, 1) := by decide +kernel
theorem dX7_statement_315 : decode cX7_statement 315 = .ok (.iconst 1, 1) := by decide +kernel
theorem dX7_statement_316 : decode cX7_statement 316 = .ok (.ireturn, 1) := by decide +kernel
theorem dX7_statement_317 : decode cX7_statement 317 = .ok (.aload_n 0, 1) := by decide +kernel
theorem dX7_statement_318 : decode cX7_statement 318 = .ok (.bipush 100, 2) := by decide +kernel
theorem dX7_statement_320 : decode cX7_statement 320 = .ok (.invokevirtual 98, 3) := by decide +kernel
theorem dX7_statement_323 : decode cX7_statement 323 = .ok (.ifCond .eq 31, 3) := by decide +kernel
theorem dX7_statement_326 : decode cX7_statement 326 = .ok (.aload_n 0, 1) := by decide +kernel
theorem dX7_statement_327 : decode cX7_statement 327 = .ok (.iconst 1, 1) := by decide +kernel
theorem dX7_statement_328 : decode cX7_statement 328 = .ok (.invokevirtual 109, 3) := by decide +kernel
theorem dX7_statement_331 : decode cX7_statement 331 = .ok (.ifCond .ne 5, 3) := by decide +kernel
theorem dX7_statement_334 : decode cX7_statement 334 = .ok (.iconst (-1), 1) := by decide +kernel
theorem dX7_statement_335 : decode cX7_statement 335 = .ok (.ireturn, 1) := by decide +kernel
theorem dX7_statement_336 : decode cX7_statement 336 = .ok (.iload_n 1, 1) := by decide +kernel
theorem dX7_statement_337 : decode cX7_statement 337 = .ok (.ifCond .eq 15, 3) := by decide +kernel
theorem dX7_statement_340 : decode cX7_statement 340 = .ok (.aload_n 0, 1) := by decide +kernel
theorem dX7_statement_341 : decode cX7_statement 341 = .ok (.getfield 25, 3) := by decide +kernel
theorem dX7_statement_344 : decode cX7_statement 344 = .ok (.iconst 2, 1) := by decide +kernel
theorem dX7_statement_345 : decode cX7_statement 345 = .ok (.aload_n 0, 1) := by decide +kernel
theorem dX7_statement_346 : decode cX7_statement 346 = .ok (.getfield 31, 3) := by decide +kernel
theorem dX7_statement_349 : decode cX7_statement 349 = .ok (.iconst 0, 1) := by decide +kernel
theorem dX7_statement_350 : decode cX7_statement 350 = .ok (.iaload, 1) := by decide +kernel
theorem dX7_statement_351 : decode cX7_statement 351 = .ok (.iastore, 1) := by decide +kernel
theorem dX7_statement_352 : decode cX7_statement 352 = .ok (.iconst 1, 1) := by decide +kernel
theorem dX7_statement_353 : decode cX7_statement 353 = .ok (.ireturn, 1) := by decide +kernel
theorem dX7_statement_354 : decode cX7_statement 354 = .ok (.aload_n 0, 1) := by decide +kernel
theorem dX7_statement_355 : decode cX7_statement 355 = .ok (.bipush 120, 2) := by decide +kernel
theorem dX7_statement_357 : decode cX7_statement 357 = .ok (.invokevirtual 98, 3) := by decide +kernel
theorem dX7_statement_360 : decode cX7_statement 360 = .ok (.ifCond .eq 110, 3) := by decide +kernel
theorem dX7_statement_363 : decode cX7_statement 363 = .ok (.aload_n 0, 1) := by decide +kernel
theorem dX7_statement_364 : decode cX7_statement 364 = .ok (.iconst 2, 1) := by decide +kernel
theorem dX7_statement_365 : decode cX7_statement 365 = .ok (.invokevirtual 109, 3) := by decide +kernel
theorem dX7_statement_368 : decode cX7_statement 368 = .ok (.ifCond .ne 5, 3) := by decide +kernel
theorem dX7_statement_371 : decode cX7_statement 371 = .ok (.iconst (-1), 1) := by decide +kernel
theorem dX7_statement_372 : decode cX7_statement 372 = .ok (.ireturn, 1) := by decide +kernel
theorem dX7_statement_373 : decode cX7_statement 373 = .ok (.iload_n 1, 1) := by decide +kernel
theorem dX7_statement_374 : decode cX7_statement 374 = .ok (.ifCond .ne 5, 3) := by decide +kernel
theorem dX7_statement_377 : decode cX7_statement 377 = .ok (.iconst 1, 1) := by decide +kernel
theorem dX7_statement_378 : decode cX7_statement 378 = .ok (.ireturn, 1) := by decide +kernel
theorem dX7_statement_379 : decode cX7_statement 379 = .ok (.aload_n 0, 1) := by decide +kernel
theorem dX7_statement_380 : decode cX7_statement 380 = .ok (.aload_n 0, 1) := by decide +kernel
theorem dX7_statement_381 : decode cX7_statement 381 = .ok (.getfield 31, 3) := by decide +kernel
theorem dX7_statement_384 : decode cX7_statement 384 = .ok (.iconst 0, 1) := by decide +kernel
theorem dX7_statement_385 : decode cX7_statement 385 = .ok (.iaload, 1) := by decide +kernel
theorem dX7_statement_386 : decode cX7_statement 386 = .ok (.invokevirtual 121, 3) := by decide +kernel
theorem dX7_statement_389 : decode cX7_statement 389 = .ok (.ifCond .eq 31, 3) := by decide +kernel
theorem dX7_statement_392 : decode cX7_statement 392 = .ok (.aload_n 0, 1) := by decide +kernel
theorem dX7_statement_393 : decode cX7_statement 393 = .ok (.aload_n 0, 1) := by decide +kernel
theorem dX7_statement_394 : decode cX7_statement 394 = .ok (.getfield 31, 3) := by decide +kernel
theorem dX7_statement_397 : decode cX7_statement 397 = .ok (.iconst 1, 1) := by decide +kernel
theorem dX7_statement_398 : decode cX7_statement 398 = .ok (.iaload, 1) := by decide +kernel
theorem dX7_statement_399 : decode cX7_statement 399 = .ok (.invokevirtual 121, 3) := by decide +kernel
theorem dX7_statement_402 : decode cX7_statement 402 = .ok (.ifCond .eq 18, 3) := by decide +kernel
theorem dX7_statement_405 : decode cX7_statement 405 = .ok (.aload_n 0, 1) := by decide +kernel
theorem dX7_statement_406 : decode cX7_statement 406 = .ok (.getfield 31, 3) := by decide +kernel
theorem dX7_statement_409 : decode cX7_statement 409 = .ok (.iconst 0, 1) := by decide +kernel
theorem dX7_statement_410 : decode cX7_statement 410 = .ok (.iaload, 1) := by decide +kernel
theorem dX7_statement_411 : decode cX7_statement 411 = .ok (.aload_n 0, 1) := by decide +kernel
theorem dX7_statement_412 : decode cX7_statement 412 = .ok (.getfield 31, 3) := by decide +kernel
theorem dX7_statement_415 : decode cX7_statement 415 = .ok (.iconst 1, 1) := by decide +kernel
theorem dX7_statement_416 : decode cX7_statement 416 = .ok (.iaload, 1) := by decide +kernel
theorem dX7_statement_417 : decode cX7_statement 417 = .ok (.if_icmp .ne 5, 3) := by decide +kernel
theorem dX7_statement_420 : decode cX7_statement 420 = .ok (.iconst 0, 1) := by decide +kernel
theorem dX7_statement_421 : decode cX7_statement 421 = .ok (.ireturn, 1) := by decide +kernel
theorem dX7_statement_422 : decode cX7_statement 422 = .ok (.aload_n 0, 1) := by decide +kernel
theorem dX7_statement_423 : decode cX7_statement 423 = .ok (.getfield 22, 3) := by decide +kernel
theorem dX7_statement_426 : decode cX7_statement 426 = .ok (.aload_n 0, 1) := by decide +kernel
theorem dX7_statement_427 : decode cX7_statement 427 = .ok (.getfield 31, 3) := by decide +kernel
theorem dX7_statement_430 : decode cX7_statement 430 = .ok (.iconst 0, 1) := by decide +kernel
theorem dX7_statement_431 : decode cX7_statement 431 = .ok (.iaload, 1) := by decide +kernel
theorem dX7_statement_432 : decode cX7_statement 432 = .ok (.iaload, 1) := by decide +kernel
theorem dX7_statement_433 : decode cX7_statement 433 = .ok (.istore_n 2, 1) := by decide +kernel
theorem dX7_statement_434 : decode cX7_statement 434 = .ok (.aload_n 0, 1) := by decide +kernel
theorem dX7_statement_435 : decode cX7_statement 435 = .ok (.getfield 22, 3) := by decide +kernel
theorem dX7_statement_438 : decode cX7_statement 438 = .ok (.aload_n 0, 1) := by decide +kernel
theorem dX7_statement_439 : decode cX7_statement 439 = .ok (.getfield 31, 3) := by decide +kernel
theorem dX7_statement_442 : decode cX7_statement 442 = .ok (.iconst 0, 1) := by decide +kernel
theorem dX7_statement_443 : decode cX7_statement 443 = .ok (.iaload, 1) := by decide +kernel
theorem dX7_statement_444 : decode cX7_statement 444 = .ok (.aload_n 0, 1) := by decide +kernel
theorem dX7_statement_445 : decode cX7_statement 445 = .ok (.getfield 22, 3) := by decide +kernel
theorem dX7_statement_448 : decode cX7_statement 448 = .ok (.aload_n 0, 1) := by decide +kernel
theorem dX7_statement_449 : decode cX7_statement 449 = .ok (.getfield 31, 3) := by decide +kernel
theorem dX7_statement_452 : decode cX7_statement 452 = .ok (.iconst 1, 1) := by decide +kernel
theorem dX7_statement_453 : decode cX7_statement 453 = .ok (.iaload, 1) := by decide +kernel
theorem dX7_statement_454 : decode cX7_statement 454 = .ok (.iaload, 1) := by decide +kernel
theorem dX7_statement_455 : decode cX7_statement 455 = .ok (.iastore, 1) := by decide +kernel
theorem dX7_statement_456 : decode cX7_statement 456 = .ok (.aload_n 0, 1) := by decide +kernel
theorem dX7_statement_457 : decode cX7_statement 457 = .ok (.getfield 22, 3) := by decide +kernel
theorem dX7_statement_460 : decode cX7_statement 460 = .ok (.aload_n 0, 1) := by decide +kernel
theorem dX7_statement_461 : decode cX7_statement 461 = .ok (.getfield 31, 3) := by decide +kernel
theorem dX7_statement_464 : decode cX7_statement 464 = .ok (.iconst 1, 1) := by decide +kernel
theorem dX7_statement_465 : decode cX7_statement 465 = .ok (.iaload, 1) := by decide +kernel
theorem dX7_statement_466 : decode cX7_statement 466 = .ok (.iload_n 2, 1) := by decide +kernel
theorem dX7_statement_467 : decode cX7_statement 467 = .ok (.iastore, 1) := by decide +kernel
theorem dX7_statement_468 : decode cX7_statement 468 = .ok (.iconst 1, 1) := by decide +kernel
theorem dX7_statement_469 : decode cX7_statement 469 = .ok (.ireturn, 1) := by decide +kernel
theorem dX7_statement_470 : decode cX7_statement 470 = .ok (.aload_n 0, 1) := by decide +kernel
theorem dX7_statement_471 : decode cX7_statement 471 = .ok (.bipush 104, 2) := by decide +kernel
theorem dX7_statement_473 : decode cX7_statement 473 = .ok (.invokevirtual 98, 3) := by decide +kernel
theorem dX7_statement_476 : decode cX7_statement 476 = .ok (.ifCond .eq 11, 3) := by decide +kernel
theorem dX7_statement_479 : decode cX7_statement 479 = .ok (.aload_n 0, 1) := by decide +kernel
theorem dX7_statement_480 : decode cX7_statement 480 = .ok (.iconst 3, 1) := by decide +kernel
theorem dX7_statement_481 : decode cX7_statement 481 = .ok (.invokevirtual 109, 3) := by decide +kernel
theorem dX7_statement_484 : decode cX7_statement 484 = .ok (.ifCond .ne 5, 3) := by decide +kernel
theorem dX7_statement_487 : decode cX7_statement 487 = .ok (.iconst (-1), 1) := by decide +kernel
theorem dX7_statement_488 : decode cX7_statement 488 = .ok (.ireturn, 1) := by decide +kernel
theorem dX7_statement_489 : decode cX7_statement 489 = .ok (.iload_n 1, 1) := by decide +kernel
theorem dX7_statement_490 : decode cX7_statement 490 = .ok (.ifCond .ne 5, 3) := by decide +kernel
theorem dX7_statement_493 : decode cX7_statement 493 = .ok (.iconst 1, 1) := by decide +kernel
theorem dX7_statement_494 : decode cX7_statement 494 = .ok (.ireturn, 1) := by decide +kernel
theorem dX7_statement_495 : decode cX7_statement 495 = .ok (.aload_n 0, 1) := by decide +kernel
theorem dX7_statement_496 : decode cX7_statement 496 = .ok (.aload_n 0, 1) := by decide +kernel
theorem dX7_statement_497 : decode cX7_statement 497 = .ok (.getfield 31, 3) := by decide +kernel
theorem dX7_statement_500 : decode cX7_statement 500 = .ok (.iconst 0, 1) := by decide +kernel
theorem dX7_statement_501 : decode cX7_statement 501 = .ok (.iaload, 1) := by decide +kernel
theorem dX7_statement_502 : decode cX7_statement 502 = .ok (.invokevirtual 121, 3) := by decide +kernel
theorem dX7_statement_505 : decode cX7_statement 505 = .ok (.ifCond .eq 14, 3) := by decide +kernel
theorem dX7_statement_508 : decode cX7_statement 508 = .ok (.aload_n 0, 1) := by decide +kernel
theorem dX7_statement_509 : decode cX7_statement 509 = .ok (.iconst 1, 1) := by decide +kernel
theorem dX7_statement_510 : decode cX7_statement 510 = .ok (.invokevirtual 112, 3) := by decide +kernel
theorem dX7_statement_513 : decode cX7_statement 513 = .ok (.invokestatic 118, 3) := by decide +kernel
theorem dX7_statement_516 : decode cX7_statement 516 = .ok (.ifCond .ne 5, 3) := by decide +kernel
theorem dX7_statement_519 : decode cX7_statement 519 = .ok (.iconst 0, 1) := by decide +kernel
theorem dX7_statement_520 : decode cX7_statement 520 = .ok (.ireturn, 1) := by decide +kernel
theorem dX7_statement_521 : decode cX7_statement 521 = .ok (.aload_n 0, 1) := by decide +kernel
theorem dX7_statement_522 : decode cX7_statement 522 = .ok (.getfield 22, 3) := by decide +kernel
theorem dX7_statement_525 : decode cX7_statement 525 = .ok (.aload_n 0, 1) := by decide +kernel
theorem dX7_statement_526 : decode cX7_statement 526 = .ok (.getfield 31, 3) := by decide +kernel
theorem dX7_statement_529 : decode cX7_statement 529 = .ok (.iconst 0, 1) := by decide +kernel
theorem dX7_statement_530 : decode cX7_statement 530 = .ok (.iaload, 1) := by decide +kernel
theorem dX7_statement_531 : decode cX7_statement 531 = .ok (.aload_n 0, 1) := by decide +kernel
theorem dX7_statement_532 : decode cX7_statement 532 = .ok (.iconst 1, 1) := by decide +kernel
theorem dX7_statement_533 : decode cX7_statement 533 = .ok (.invokevirtual 112, 3) := by decide +kernel
theorem dX7_statement_536 : decode cX7_statement 536 = .ok (.iastore, 1) := by decide +kernel
theorem dX7_statement_537 : decode cX7_statement 537 = .ok (.iconst 1, 1) := by decide +kernel
theorem dX7_statement_538 : decode cX7_statement 538 = .ok (.ireturn, 1) := by decide +kernel
theorem dX7_night_0 : decode cX7_night 0 = .ok (.aload_n 0, 1) := by decide +kernel
theorem dX7_night_1 : decode cX7_night 1 = .ok (.iconst 0, 1) := by decide +kernel
theorem dX7_night_2 : decode cX7_night 2 = .ok (.putfield 95, 3) := by decide +kernel
theorem dX7_night_5 : decode cX7_night 5 = .ok (.iconst 1, 1) := by decide +kernel
theorem dX7_night_6 : decode cX7_night 6 = .ok (.istore_n 1, 1) := by decide +kernel
theorem dX7_night_7 : decode cX7_night 7 = .ok (.iload_n 1, 1) := by decide +kernel
theorem dX7_night_8 : decode cX7_night 8 = .ok (.ifCond .eq 45, 3) := by decide +kernel
theorem dX7_night_11 : decode cX7_night 11 = .ok (.aload_n 0, 1) := by decide +kernel
theorem dX7_night_12 : decode cX7_night 12 = .ok (.iconst 0, 1) := by decide +kernel
theorem dX7_night_13 : decode cX7_night 13 = .ok (.invokevirtual 124, 3) := by decide +kernel
theorem dX7_night_16 : decode cX7_night 16 = .ok (.iconst 1, 1) := by decide +kernel
theorem dX7_night_17 : decode cX7_night 17 = .ok (.if_icmp .ne 16, 3) := by decide +kernel
theorem dX7_night_20 : decode cX7_night 20 = .ok (.aload_n 0, 1) := by decide +kernel
theorem dX7_night_21 : decode cX7_night 21 = .ok (.bipush 59, 2) := by decide +kernel
theorem dX7_night_23 : decode cX7_night 23 = .ok (.invokevirtual 98, 3) := by decide +kernel
theorem dX7_night_26 : decode cX7_night 26 = .ok (.ifCond .eq 7, 3) := by decide +kernel
theorem dX7_night_29 : decode cX7_night 29 = .ok (.iconst 1, 1) := by decide +kernel
theorem dX7_night_30 : decode cX7_night 30 = .ok (.goto 4, 3) := by decide +kernel
theorem dX7_night_33 : decode cX7_night 33 = .ok (.iconst 0, 1) := by decide +kernel
theorem dX7_night_34 : decode cX7_night 34 = .ok (.istore_n 1, 1) := by decide +kernel
theorem dX7_night_35 : decode cX7_night 35 = .ok (.iload_n 1, 1) := by decide +kernel
theorem dX7_night_36 : decode cX7_night 36 = .ok (.ifCond .eq (-29), 3) := by decide +kernel
theorem dX7_night_39 : decode cX7_night 39 = .ok (.aload_n 0, 1) := by decide +kernel
theorem dX7_night_40 : decode cX7_night 40 = .ok (.getfield 95, 3) := by decide +kernel
theorem dX7_night_43 : decode cX7_night 43 = .ok (.aload_n 0, 1) := by decide +kernel
theorem dX7_night_44 : decode cX7_night 44 = .ok (.getfield 92, 3) := by decide +kernel
theorem dX7_night_47 : decode cX7_night 47 = .ok (.if_icmp .ne (-40), 3) := by decide +kernel
theorem dX7_night_50 : decode cX7_night 50 = .ok (.goto 3, 3) := by decide +kernel
theorem dX7_night_53 : decode cX7_night 53 = .ok (.iload_n 1, 1) := by decide +kernel
theorem dX7_night_54 : decode cX7_night 54 = .ok (.ifCond .ne 17, 3) := by decide +kernel
theorem dX7_night_57 : decode cX7_night 57 = .ok (.aload_n 0, 1) := by decide +kernel
theorem dX7_night_58 : decode cX7_night 58 = .ok (.iconst 0, 1) := by decide +kernel
theorem dX7_night_59 : decode cX7_night 59 = .ok (.putfield 92, 3) := by decide +kernel
theorem dX7_night_62 : decode cX7_night 62 = .ok (.sipush (-1000), 3) := by decide +kernel
theorem dX7_night_65 : decode cX7_night 65 = .ok (.aload_n 0, 1) := by decide +kernel
theorem dX7_night_66 : decode cX7_night 66 = .ok (.getfield 95, 3) := by decide +kernel
theorem dX7_night_69 : decode cX7_night 69 = .ok (.isub, 1) := by decide +kernel
theorem dX7_night_70 : decode cX7_night 70 = .ok (.ireturn, 1) := by decide +kernel
theorem dX7_night_71 : decode cX7_night 71 = .ok (.aload_n 0, 1) := by decide +kernel
theorem dX7_night_72 : decode cX7_night 72 = .ok (.aload_n 0, 1) := by decide +kernel
theorem dX7_night_73 : decode cX7_night 73 = .ok (.getfield 43, 3) := by decide +kernel
theorem dX7_night_76 : decode cX7_night 76 = .ok (.invokevirtual 128, 3) := by decide +kernel
theorem dX7_night_79 : decode cX7_night 79 = .ok (.aload_n 0, 1) := by decide +kernel
theorem dX7_night_80 : decode cX7_night 80 = .ok (.iconst 0, 1) := by decide +kernel
theorem dX7_night_81 : decode cX7_night 81 = .ok (.putfield 95, 3) := by decide +kernel
theorem dX7_night_84 : decode cX7_night 84 = .ok (.iconst 0, 1) := by decide +kernel
theorem dX7_night_85 : decode cX7_night 85 = .ok (.istore_n 2, 1) := by decide +kernel
theorem dX7_night_86 : decode cX7_night 86 = .ok (.aload_n 0, 1) := by decide +kernel
theorem dX7_night_87 : decode cX7_night 87 = .ok (.getfield 95, 3) := by decide +kernel
theorem dX7_night_90 : decode cX7_night 90 = .ok (.aload_n 0, 1) := by decide +kernel
theorem dX7_night_91 : decode cX7_night 91 = .ok (.getfield 92, 3) := by decide +kernel
theorem dX7_night_94 : decode cX7_night 94 = .ok (.if_icmp .ge 48, 3) := by decide +kernel
theorem dX7_night_97 : decode cX7_night 97 = .ok (.aload_n 0, 1) := by decide +kernel
theorem dX7_night_98 : decode cX7_night 98 = .ok (.getfield 95, 3) := by decide +kernel
theorem dX7_night_101 : decode cX7_night 101 = .ok (.istore_n 3, 1) := by decide +kernel
theorem dX7_night_102 : decode cX7_night 102 = .ok (.aload_n 0, 1) := by decide +kernel
theorem dX7_night_103 : decode cX7_night 103 = .ok (.iconst 1, 1) := by decide +kernel
theorem dX7_night_104 : decode cX7_night 104 = .ok (.invokevirtual 124, 3) := by decide +kernel
theorem dX7_night_107 : decode cX7_night 107 = .ok (.ifCond .ne 22, 3) := by decide +kernel
theorem dX7_night_110 : decode cX7_night 110 = .ok (.aload_n 0, 1) := by decide +kernel
theorem dX7_night_111 : decode cX7_night 111 = .ok (.aload_n 0, 1) := by decide +kernel
theorem dX7_night_112 : decode cX7_night 112 = .ok (.getfield 43, 3) := by decide +kernel
theorem dX7_night_115 : decode cX7_night 115 = .ok (.invokevirtual 132, 3) := by decide +kernel
theorem dX7_night_118 : decode cX7_night 118 = .ok (.aload_n 0, 1) := by decide +kernel
theorem dX7_night_119 : decode cX7_night 119 = .ok (.iconst 0, 1) := by decide +kernel
theorem dX7_night_120 : decode cX7_night 120 = .ok (.putfield 92, 3) := by decide +kernel
theorem dX7_night_123 : decode cX7_night 123 = .ok (.sipush (-2000), 3) := by decide +kernel
theorem dX7_night_126 : decode cX7_night 126 = .ok (.iload_n 3, 1) := by decide +kernel
theorem dX7_night_127 : decode cX7_night 127 = .ok (.isub, 1) := by decide +kernel
theorem dX7_night_128 : decode cX7_night 128 = .ok (.ireturn, 1) := by decide +kernel
theorem dX7_night_129 : decode cX7_night 129 = .ok (.aload_n 0, 1) := by decide +kernel
theorem dX7_night_130 : decode cX7_night 130 = .ok (.bipush 59, 2) := by decide +kernel
theorem dX7_night_132 : decode cX7_night 132 = .ok (.invokevirtual 98, 3) := by decide +kernel
theorem dX7_night_135 : decode cX7_night 135 = .ok (.pop, 1) := by decide +kernel
theorem dX7_night_136 : decode cX7_night 136 = .ok (.iinc 2 1, 3) := by decide +kernel
theorem dX7_night_139 : decode cX7_night 139 = .ok (.goto (-53), 3) := by decide +kernel
theorem dX7_night_142 : decode cX7_night 142 = .ok (.aload_n 0, 1) := by decide +kernel
theorem dX7_night_143 : decode cX7_night 143 = .ok (.iconst 0, 1) := by decide +kernel
theorem dX7_night_144 : decode cX7_night 144 = .ok (.putfield 92, 3) := by decide +kernel
theorem dX7_night_147 : decode cX7_night 147 = .ok (.iload_n 2, 1) := by decide +kernel
theorem dX7_night_148 : decode cX7_night 148 = .ok (.ireturn, 1) := by decide +kernel
theorem dX7_fetches_0 : decode cX7_fetches 0 = .ok (.aload_n 0, 1) := by decide +kernel
theorem dX7_fetches_1 : decode cX7_fetches 1 = .ok (.getfield 7, 3) := by decide +kernel
theorem dX7_fetches_4 : decode cX7_fetches 4 = .ok (.iload_n 1, 1) := by decide +kernel
theorem dX7_fetches_5 : decode cX7_fetches 5 = .ok (.iaload, 1) := by decide +kernel
theorem dX7_fetches_6 : decode cX7_fetches 6 = .ok (.tableswitch 41 1 3 #[26, 28, 31], 26) := by decide +kernel
theorem dX7_fetches_32 : decode cX7_fetches 32 = .ok (.iconst 0, 1) := by decide +kernel
theorem dX7_fetches_33 : decode cX7_fetches 33 = .ok (.ireturn, 1) := by decide +kernel
theorem dX7_fetches_34 : decode cX7_fetches 34 = .ok (.bipush 39, 2) := by decide +kernel
theorem dX7_fetches_36 : decode cX7_fetches 36 = .ok (.ireturn, 1) := by decide +kernel
theorem dX7_fetches_37 : decode cX7_fetches 37 = .ok (.bipush 6, 2) := by decide +kernel
theorem dX7_fetches_39 : decode cX7_fetches 39 = .ok (.aload_n 0, 1) := by decide +kernel
theorem dX7_fetches_40 : decode cX7_fetches 40 = .ok (.getfield 13, 3) := by decide +kernel
theorem dX7_fetches_43 : decode cX7_fetches 43 = .ok (.iload_n 1, 1) := by decide +kernel
theorem dX7_fetches_44 : decode cX7_fetches 44 = .ok (.iaload, 1) := by decide +kernel
theorem dX7_fetches_45 : decode cX7_fetches 45 = .ok (.iadd, 1) := by decide +kernel
theorem dX7_fetches_46 : decode cX7_fetches 46 = .ok (.ireturn, 1) := by decide +kernel
theorem dX7_fetches_47 : decode cX7_fetches 47 = .ok (.bipush 6, 2) := by decide +kernel
theorem dX7_fetches_49 : decode cX7_fetches 49 = .ok (.ireturn, 1) := by decide +kernel
theorem dX7_costs_0 : decode cX7_costs 0 = .ok (.aload_n 0, 1) := by decide +kernel
theorem dX7_costs_1 : decode cX7_costs 1 = .ok (.getfield 7, 3) := by decide +kernel
theorem dX7_costs_4 : decode cX7_costs 4 = .ok (.iload_n 1, 1) := by decide +kernel
theorem dX7_costs_5 : decode cX7_costs 5 = .ok (.iaload, 1) := by decide +kernel
theorem dX7_costs_6 : decode cX7_costs 6 = .ok (.tableswitch 63 1 5 #[34, 43, 52, 61, 61], 34) := by decide +kernel
theorem dX7_costs_40 : decode cX7_costs 40 = .ok (.aload_n 0, 1) := by decide +kernel
theorem dX7_costs_41 : decode cX7_costs 41 = .ok (.getfield 25, 3) := by decide +kernel
theorem dX7_costs_44 : decode cX7_costs 44 = .ok (.iconst 2, 1) := by decide +kernel
theorem dX7_costs_45 : decode cX7_costs 45 = .ok (.iaload, 1) := by decide +kernel
theorem dX7_costs_46 : decode cX7_costs 46 = .ok (.iconst 2, 1) := by decide +kernel
theorem dX7_costs_47 : decode cX7_costs 47 = .ok (.idiv, 1) := by decide +kernel
theorem dX7_costs_48 : decode cX7_costs 48 = .ok (.ireturn, 1) := by decide +kernel
theorem dX7_costs_49 : decode cX7_costs 49 = .ok (.iconst 2, 1) := by decide +kernel
theorem dX7_costs_50 : decode cX7_costs 50 = .ok (.aload_n 0, 1) := by decide +kernel
theorem dX7_costs_51 : decode cX7_costs 51 = .ok (.getfield 25, 3) := by decide +kernel
theorem dX7_costs_54 : decode cX7_costs 54 = .ok (.iconst 2, 1) := by decide +kernel
theorem dX7_costs_55 : decode cX7_costs 55 = .ok (.iaload, 1) := by decide +kernel
theorem dX7_costs_56 : decode cX7_costs 56 = .ok (.imul, 1) := by decide +kernel
theorem dX7_costs_57 : decode cX7_costs 57 = .ok (.ireturn, 1) := by decide +kernel
theorem dX7_costs_58 : decode cX7_costs 58 = .ok (.aload_n 0, 1) := by decide +kernel
theorem dX7_costs_59 : decode cX7_costs 59 = .ok (.getfield 25, 3) := by decide +kernel
theorem dX7_costs_62 : decode cX7_costs 62 = .ok (.iconst 2, 1) := by decide +kernel
theorem dX7_costs_63 : decode cX7_costs 63 = .ok (.iaload, 1) := by decide +kernel
theorem dX7_costs_64 : decode cX7_costs 64 = .ok (.iconst 1, 1) := by decide +kernel
theorem dX7_costs_65 : decode cX7_costs 65 = .ok (.iadd, 1) := by decide +kernel
theorem dX7_costs_66 : decode cX7_costs 66 = .ok (.ireturn, 1) := by decide +kernel
theorem dX7_costs_67 : decode cX7_costs 67 = .ok (.iconst 0, 1) := by decide +kernel
theorem dX7_costs_68 : decode cX7_costs 68 = .ok (.ireturn, 1) := by decide +kernel
theorem dX7_costs_69 : decode cX7_costs 69 = .ok (.aload_n 0, 1) := by decide +kernel
theorem dX7_costs_70 : decode cX7_costs 70 = .ok (.getfield 25, 3) := by decide +kernel
theorem dX7_costs_73 : decode cX7_costs 73 = .ok (.iconst 2, 1) := by decide +kernel
theorem dX7_costs_74 : decode cX7_costs 74 = .ok (.iaload, 1) := by decide +kernel
theorem dX7_costs_75 : decode cX7_costs 75 = .ok (.ireturn, 1) := by decide +kernel
theorem dX7_goer_0 : decode cX7_goer 0 = .ok (.aload_n 0, 1) := by decide +kernel
theorem dX7_goer_1 : decode cX7_goer 1 = .ok (.iload_n 1, 1) := by decide +kernel
theorem dX7_goer_2 : decode cX7_goer 2 = .ok (.invokevirtual 121, 3) := by decide +kernel
theorem dX7_goer_5 : decode cX7_goer 5 = .ok (.ifCond .ne 9, 3) := by decide +kernel
theorem dX7_goer_8 : decode cX7_goer 8 = .ok (.aload_n 0, 1) := by decide +kernel
theorem dX7_goer_9 : decode cX7_goer 9 = .ok (.iconst (-1), 1) := by decide +kernel
theorem dX7_goer_10 : decode cX7_goer 10 = .ok (.invokevirtual 80, 3) := by decide +kernel
theorem dX7_goer_13 : decode cX7_goer 13 = .ok (.ireturn, 1) := by decide +kernel
theorem dX7_goer_14 : decode cX7_goer 14 = .ok (.iload_n 2, 1) := by decide +kernel
theorem dX7_goer_15 : decode cX7_goer 15 = .ok (.tableswitch 88 0 6 #[41, 48, 55, 62, 69, 76, 82], 41) := by decide +kernel
theorem dX7_goer_56 : decode cX7_goer 56 = .ok (.aload_n 0, 1) := by decide +kernel
theorem dX7_goer_57 : decode cX7_goer 57 = .ok (.getfield 7, 3) := by decide +kernel
theorem dX7_goer_60 : decode cX7_goer 60 = .ok (.iload_n 1, 1) := by decide +kernel
theorem dX7_goer_61 : decode cX7_goer 61 = .ok (.iaload, 1) := by decide +kernel
theorem dX7_goer_62 : decode cX7_goer 62 = .ok (.ireturn, 1) := by decide +kernel
theorem dX7_goer_63 : decode cX7_goer 63 = .ok (.aload_n 0, 1) := by decide +kernel
theorem dX7_goer_64 : decode cX7_goer 64 = .ok (.getfield 13, 3) := by decide +kernel
theorem dX7_goer_67 : decode cX7_goer 67 = .ok (.iload_n 1, 1) := by decide +kernel
theorem dX7_goer_68 : decode cX7_goer 68 = .ok (.iaload, 1) := by decide +kernel
theorem dX7_goer_69 : decode cX7_goer 69 = .ok (.ireturn, 1) := by decide +kernel
theorem dX7_goer_70 : decode cX7_goer 70 = .ok (.aload_n 0, 1) := by decide +kernel
theorem dX7_goer_71 : decode cX7_goer 71 = .ok (.getfield 16, 3) := by decide +kernel
theorem dX7_goer_74 : decode cX7_goer 74 = .ok (.iload_n 1, 1) := by decide +kernel
theorem dX7_goer_75 : decode cX7_goer 75 = .ok (.iaload, 1) := by decide +kernel
theorem dX7_goer_76 : decode cX7_goer 76 = .ok (.ireturn, 1) := by decide +kernel
theorem dX7_goer_77 : decode cX7_goer 77 = .ok (.aload_n 0, 1) := by decide +kernel
theorem dX7_goer_78 : decode cX7_goer 78 = .ok (.getfield 19, 3) := by decide +kernel
theorem dX7_goer_81 : decode cX7_goer 81 = .ok (.iload_n 1, 1) := by decide +kernel
theorem dX7_goer_82 : decode cX7_goer 82 = .ok (.iaload, 1) := by decide +kernel
theorem dX7_goer_83 : decode cX7_goer 83 = .ok (.ireturn, 1) := by decide +kernel
theorem dX7_goer_84 : decode cX7_goer 84 = .ok (.aload_n 0, 1) := by decide +kernel
theorem dX7_goer_85 : decode cX7_goer 85 = .ok (.getfield 22, 3) := by decide +kernel
theorem dX7_goer_88 : decode cX7_goer 88 = .ok (.iload_n 1, 1) := by decide +kernel
theorem dX7_goer_89 : decode cX7_goer 89 = .ok (.iaload, 1) := by decide +kernel
theorem dX7_goer_90 : decode cX7_goer 90 = .ok (.ireturn, 1) := by decide +kernel
theorem dX7_goer_91 : decode cX7_goer 91 = .ok (.aload_n 0, 1) := by decide +kernel
theorem dX7_goer_92 : decode cX7_goer 92 = .ok (.iload_n 1, 1) := by decide +kernel
theorem dX7_goer_93 : decode cX7_goer 93 = .ok (.invokevirtual 135, 3) := by decide +kernel
theorem dX7_goer_96 : decode cX7_goer 96 = .ok (.ireturn, 1) := by decide +kernel
theorem dX7_goer_97 : decode cX7_goer 97 = .ok (.aload_n 0, 1) := by decide +kernel
theorem dX7_goer_98 : decode cX7_goer 98 = .ok (.iload_n 1, 1) := by decide +kernel
theorem dX7_goer_99 : decode cX7_goer 99 = .ok (.invokevirtual 138, 3) := by decide +kernel
theorem dX7_goer_102 : decode cX7_goer 102 = .ok (.ireturn, 1) := by decide +kernel
theorem dX7_goer_103 : decode cX7_goer 103 = .ok (.aload_n 0, 1) := by decide +kernel
theorem dX7_goer_104 : decode cX7_goer 104 = .ok (.bipush (-2), 2) := by decide +kernel
theorem dX7_goer_106 : decode cX7_goer 106 = .ok (.invokevirtual 80, 3) := by decide +kernel
theorem dX7_goer_109 : decode cX7_goer 109 = .ok (.ireturn, 1) := by decide +kernel
theorem dX7_hour_0 : decode cX7_hour 0 = .ok (.aload_n 0, 1) := by decide +kernel
theorem dX7_hour_1 : decode cX7_hour 1 = .ok (.iload_n 1, 1) := by decide +kernel
theorem dX7_hour_2 : decode cX7_hour 2 = .ok (.invokevirtual 121, 3) := by decide +kernel
theorem dX7_hour_5 : decode cX7_hour 5 = .ok (.ifCond .ne 9, 3) := by decide +kernel
theorem dX7_hour_8 : decode cX7_hour 8 = .ok (.aload_n 0, 1) := by decide +kernel
theorem dX7_hour_9 : decode cX7_hour 9 = .ok (.iconst (-1), 1) := by decide +kernel
theorem dX7_hour_10 : decode cX7_hour 10 = .ok (.invokevirtual 80, 3) := by decide +kernel
theorem dX7_hour_13 : decode cX7_hour 13 = .ok (.ireturn, 1) := by decide +kernel
theorem dX7_hour_14 : decode cX7_hour 14 = .ok (.iload_n 2, 1) := by decide +kernel
theorem dX7_hour_15 : decode cX7_hour 15 = .ok (.ifCond .ge 10, 3) := by decide +kernel
theorem dX7_hour_18 : decode cX7_hour 18 = .ok (.aload_n 0, 1) := by decide +kernel
theorem dX7_hour_19 : decode cX7_hour 19 = .ok (.bipush (-4), 2) := by decide +kernel
theorem dX7_hour_21 : decode cX7_hour 21 = .ok (.invokevirtual 80, 3) := by decide +kernel
theorem dX7_hour_24 : decode cX7_hour 24 = .ok (.ireturn, 1) := by decide +kernel
theorem dX7_hour_25 : decode cX7_hour 25 = .ok (.iload_n 2, 1) := by decide +kernel
theorem dX7_hour_26 : decode cX7_hour 26 = .ok (.bipush 11, 2) := by decide +kernel
theorem dX7_hour_28 : decode cX7_hour 28 = .ok (.if_icmp .le 10, 3) := by decide +kernel
theorem dX7_hour_31 : decode cX7_hour 31 = .ok (.aload_n 0, 1) := by decide +kernel
theorem dX7_hour_32 : decode cX7_hour 32 = .ok (.bipush (-6), 2) := by decide +kernel
theorem dX7_hour_34 : decode cX7_hour 34 = .ok (.invokevirtual 80, 3) := by decide +kernel
theorem dX7_hour_37 : decode cX7_hour 37 = .ok (.ireturn, 1) := by decide +kernel
theorem dX7_hour_38 : decode cX7_hour 38 = .ok (.aload_n 0, 1) := by decide +kernel
theorem dX7_hour_39 : decode cX7_hour 39 = .ok (.getfield 22, 3) := by decide +kernel
theorem dX7_hour_42 : decode cX7_hour 42 = .ok (.iload_n 1, 1) := by decide +kernel
theorem dX7_hour_43 : decode cX7_hour 43 = .ok (.iaload, 1) := by decide +kernel
theorem dX7_hour_44 : decode cX7_hour 44 = .ok (.istore_n 3, 1) := by decide +kernel
theorem dX7_hour_45 : decode cX7_hour 45 = .ok (.aload_n 0, 1) := by decide +kernel
theorem dX7_hour_46 : decode cX7_hour 46 = .ok (.getfield 22, 3) := by decide +kernel
theorem dX7_hour_49 : decode cX7_hour 49 = .ok (.iload_n 1, 1) := by decide +kernel
theorem dX7_hour_50 : decode cX7_hour 50 = .ok (.iload_n 2, 1) := by decide +kernel
theorem dX7_hour_51 : decode cX7_hour 51 = .ok (.iastore, 1) := by decide +kernel
theorem dX7_hour_52 : decode cX7_hour 52 = .ok (.iload_n 3, 1) := by decide +kernel
theorem dX7_hour_53 : decode cX7_hour 53 = .ok (.ireturn, 1) := by decide +kernel
theorem dX7_set_0 : decode cX7_set 0 = .ok (.iload_n 1, 1) := by decide +kernel
theorem dX7_set_1 : decode cX7_set 1 = .ok (.iconst 0, 1) := by decide +kernel
theorem dX7_set_2 : decode cX7_set 2 = .ok (.iconst 2, 1) := by decide +kernel
theorem dX7_set_3 : decode cX7_set 3 = .ok (.invokestatic 88, 3) := by decide +kernel
theorem dX7_set_6 : decode cX7_set 6 = .ok (.ifCond .ne 10, 3) := by decide +kernel
theorem dX7_set_9 : decode cX7_set 9 = .ok (.aload_n 0, 1) := by decide +kernel
theorem dX7_set_10 : decode cX7_set 10 = .ok (.bipush (-2), 2) := by decide +kernel
theorem dX7_set_12 : decode cX7_set 12 = .ok (.invokevirtual 80, 3) := by decide +kernel
theorem dX7_set_15 : decode cX7_set 15 = .ok (.ireturn, 1) := by decide +kernel
theorem dX7_set_16 : decode cX7_set 16 = .ok (.iload_n 2, 1) := by decide +kernel
theorem dX7_set_17 : decode cX7_set 17 = .ok (.ifCond .ge 10, 3) := by decide +kernel
theorem dX7_set_20 : decode cX7_set 20 = .ok (.aload_n 0, 1) := by decide +kernel
theorem dX7_set_21 : decode cX7_set 21 = .ok (.bipush (-4), 2) := by decide +kernel
theorem dX7_set_23 : decode cX7_set 23 = .ok (.invokevirtual 80, 3) := by decide +kernel
theorem dX7_set_26 : decode cX7_set 26 = .ok (.ireturn, 1) := by decide +kernel
theorem dX7_set_27 : decode cX7_set 27 = .ok (.iload_n 2, 1) := by decide +kernel
theorem dX7_set_28 : decode cX7_set 28 = .ok (.iload_n 1, 1) := by decide +kernel
theorem dX7_set_29 : decode cX7_set 29 = .ok (.invokestatic 141, 3) := by decide +kernel
theorem dX7_set_32 : decode cX7_set 32 = .ok (.if_icmp .le 10, 3) := by decide +kernel
theorem dX7_set_35 : decode cX7_set 35 = .ok (.aload_n 0, 1) := by decide +kernel
theorem dX7_set_36 : decode cX7_set 36 = .ok (.bipush (-6), 2) := by decide +kernel
theorem dX7_set_38 : decode cX7_set 38 = .ok (.invokevirtual 80, 3) := by decide +kernel
theorem dX7_set_41 : decode cX7_set 41 = .ok (.ireturn, 1) := by decide +kernel
theorem dX7_set_42 : decode cX7_set 42 = .ok (.aload_n 0, 1) := by decide +kernel
theorem dX7_set_43 : decode cX7_set 43 = .ok (.getfield 25, 3) := by decide +kernel
theorem dX7_set_46 : decode cX7_set 46 = .ok (.iload_n 1, 1) := by decide +kernel
theorem dX7_set_47 : decode cX7_set 47 = .ok (.iaload, 1) := by decide +kernel
theorem dX7_set_48 : decode cX7_set 48 = .ok (.istore_n 3, 1) := by decide +kernel
theorem dX7_set_49 : decode cX7_set 49 = .ok (.aload_n 0, 1) := by decide +kernel
theorem dX7_set_50 : decode cX7_set 50 = .ok (.getfield 25, 3) := by decide +kernel
theorem dX7_set_53 : decode cX7_set 53 = .ok (.iload_n 1, 1) := by decide +kernel
theorem dX7_set_54 : decode cX7_set 54 = .ok (.iload_n 2, 1) := by decide +kernel
theorem dX7_set_55 : decode cX7_set 55 = .ok (.iastore, 1) := by decide +kernel
theorem dX7_set_56 : decode cX7_set 56 = .ok (.iload_n 3, 1) := by decide +kernel
theorem dX7_set_57 : decode cX7_set 57 = .ok (.ireturn, 1) := by decide +kernel
theorem dX7_walksDark_0 : decode cX7_walksDark 0 = .ok (.aload_n 0, 1) := by decide +kernel
theorem dX7_walksDark_1 : decode cX7_walksDark 1 = .ok (.getfield 55, 3) := by decide +kernel
theorem dX7_walksDark_4 : decode cX7_walksDark 4 = .ok (.iload_n 1, 1) := by decide +kernel
theorem dX7_walksDark_5 : decode cX7_walksDark 5 = .ok (.dup2, 1) := by decide +kernel
theorem dX7_walksDark_6 : decode cX7_walksDark 6 = .ok (.iaload, 1) := by decide +kernel
theorem dX7_walksDark_7 : decode cX7_walksDark 7 = .ok (.iload_n 2, 1) := by decide +kernel
theorem dX7_walksDark_8 : decode cX7_walksDark 8 = .ok (.iload_n 3, 1) := by decide +kernel
theorem dX7_walksDark_9 : decode cX7_walksDark 9 = .ok (.isub, 1) := by decide +kernel
theorem dX7_walksDark_10 : decode cX7_walksDark 10 = .ok (.invokestatic 144, 3) := by decide +kernel
theorem dX7_walksDark_13 : decode cX7_walksDark 13 = .ok (.iadd, 1) := by decide +kernel
theorem dX7_walksDark_14 : decode cX7_walksDark 14 = .ok (.iastore, 1) := by decide +kernel
theorem dX7_walksDark_15 : decode cX7_walksDark 15 = .ok (.return_, 1) := by decide +kernel
theorem dX7_carries_0 : decode cX7_carries 0 = .ok (.aload_n 0, 1) := by decide +kernel
theorem dX7_carries_1 : decode cX7_carries 1 = .ok (.getfield 49, 3) := by decide +kernel
theorem dX7_carries_4 : decode cX7_carries 4 = .ok (.iload_n 2, 1) := by decide +kernel
theorem dX7_carries_5 : decode cX7_carries 5 = .ok (.iaload, 1) := by decide +kernel
theorem dX7_carries_6 : decode cX7_carries 6 = .ok (.iload_n 3, 1) := by decide +kernel
theorem dX7_carries_7 : decode cX7_carries 7 = .ok (.isub, 1) := by decide +kernel
theorem dX7_carries_8 : decode cX7_carries 8 = .ok (.invokestatic 144, 3) := by decide +kernel
theorem dX7_carries_11 : decode cX7_carries 11 = .ok (.istore 4, 2) := by decide +kernel
theorem dX7_carries_13 : decode cX7_carries 13 = .ok (.iload 4, 2) := by decide +kernel
theorem dX7_carries_15 : decode cX7_carries 15 = .ok (.aload_n 0, 1) := by decide +kernel
theorem dX7_carries_16 : decode cX7_carries 16 = .ok (.getfield 52, 3) := by decide +kernel
theorem dX7_carries_19 : decode cX7_carries 19 = .ok (.iload_n 2, 1) := by decide +kernel
theorem dX7_carries_20 : decode cX7_carries 20 = .ok (.iaload, 1) := by decide +kernel
theorem dX7_carries_21 : decode cX7_carries 21 = .ok (.invokestatic 149, 3) := by decide +kernel
theorem dX7_carries_24 : decode cX7_carries 24 = .ok (.istore 5, 2) := by decide +kernel
theorem dX7_carries_26 : decode cX7_carries 26 = .ok (.aload_n 0, 1) := by decide +kernel
theorem dX7_carries_27 : decode cX7_carries 27 = .ok (.getfield 52, 3) := by decide +kernel
theorem dX7_carries_30 : decode cX7_carries 30 = .ok (.iload_n 2, 1) := by decide +kernel
theorem dX7_carries_31 : decode cX7_carries 31 = .ok (.dup2, 1) := by decide +kernel
theorem dX7_carries_32 : decode cX7_carries 32 = .ok (.iaload, 1) := by decide +kernel
theorem dX7_carries_33 : decode cX7_carries 33 = .ok (.iload 5, 2) := by decide +kernel
theorem dX7_carries_35 : decode cX7_carries 35 = .ok (.isub, 1) := by decide +kernel
theorem dX7_carries_36 : decode cX7_carries 36 = .ok (.iastore, 1) := by decide +kernel
theorem dX7_carries_37 : decode cX7_carries 37 = .ok (.aload_n 0, 1) := by decide +kernel
theorem dX7_carries_38 : decode cX7_carries 38 = .ok (.getfield 58, 3) := by decide +kernel
theorem dX7_carries_41 : decode cX7_carries 41 = .ok (.iload_n 1, 1) := by decide +kernel
theorem dX7_carries_42 : decode cX7_carries 42 = .ok (.dup2, 1) := by decide +kernel
theorem dX7_carries_43 : decode cX7_carries 43 = .ok (.iaload, 1) := by decide +kernel
theorem dX7_carries_44 : decode cX7_carries 44 = .ok (.iload 5, 2) := by decide +kernel
theorem dX7_carries_46 : decode cX7_carries 46 = .ok (.iadd, 1) := by decide +kernel
theorem dX7_carries_47 : decode cX7_carries 47 = .ok (.iastore, 1) := by decide +kernel
theorem dX7_carries_48 : decode cX7_carries 48 = .ok (.aload_n 0, 1) := by decide +kernel
theorem dX7_carries_49 : decode cX7_carries 49 = .ok (.getfield 55, 3) := by decide +kernel
theorem dX7_carries_52 : decode cX7_carries 52 = .ok (.iload_n 1, 1) := by decide +kernel
theorem dX7_carries_53 : decode cX7_carries 53 = .ok (.dup2, 1) := by decide +kernel
theorem dX7_carries_54 : decode cX7_carries 54 = .ok (.iaload, 1) := by decide +kernel
theorem dX7_carries_55 : decode cX7_carries 55 = .ok (.iload 4, 2) := by decide +kernel
theorem dX7_carries_57 : decode cX7_carries 57 = .ok (.iload 5, 2) := by decide +kernel
theorem dX7_carries_59 : decode cX7_carries 59 = .ok (.isub, 1) := by decide +kernel
theorem dX7_carries_60 : decode cX7_carries 60 = .ok (.iadd, 1) := by decide +kernel
theorem dX7_carries_61 : decode cX7_carries 61 = .ok (.iastore, 1) := by decide +kernel
theorem dX7_carries_62 : decode cX7_carries 62 = .ok (.aload_n 0, 1) := by decide +kernel
theorem dX7_carries_63 : decode cX7_carries 63 = .ok (.getfield 49, 3) := by decide +kernel
theorem dX7_carries_66 : decode cX7_carries 66 = .ok (.iload_n 2, 1) := by decide +kernel
theorem dX7_carries_67 : decode cX7_carries 67 = .ok (.iload_n 3, 1) := by decide +kernel
theorem dX7_carries_68 : decode cX7_carries 68 = .ok (.iastore, 1) := by decide +kernel
theorem dX7_carries_69 : decode cX7_carries 69 = .ok (.return_, 1) := by decide +kernel
theorem dX7_carriedTo_0 : decode cX7_carriedTo 0 = .ok (.aload_n 0, 1) := by decide +kernel
theorem dX7_carriedTo_1 : decode cX7_carriedTo 1 = .ok (.getfield 7, 3) := by decide +kernel
theorem dX7_carriedTo_4 : decode cX7_carriedTo 4 = .ok (.iload_n 1, 1) := by decide +kernel
theorem dX7_carriedTo_5 : decode cX7_carriedTo 5 = .ok (.iaload, 1) := by decide +kernel
theorem dX7_carriedTo_6 : decode cX7_carriedTo 6 = .ok (.iconst 5, 1) := by decide +kernel
theorem dX7_carriedTo_7 : decode cX7_carriedTo 7 = .ok (.if_icmp .ne 5, 3) := by decide +kernel
theorem dX7_carriedTo_10 : decode cX7_carriedTo 10 = .ok (.iload_n 2, 1) := by decide +kernel
theorem dX7_carriedTo_11 : decode cX7_carriedTo 11 = .ok (.ireturn, 1) := by decide +kernel
theorem dX7_carriedTo_12 : decode cX7_carriedTo 12 = .ok (.aload_n 0, 1) := by decide +kernel
theorem dX7_carriedTo_13 : decode cX7_carriedTo 13 = .ok (.getfield 7, 3) := by decide +kernel
theorem dX7_carriedTo_16 : decode cX7_carriedTo 16 = .ok (.iload_n 1, 1) := by decide +kernel
theorem dX7_carriedTo_17 : decode cX7_carriedTo 17 = .ok (.iaload, 1) := by decide +kernel
theorem dX7_carriedTo_18 : decode cX7_carriedTo 18 = .ok (.iconst 1, 1) := by decide +kernel
theorem dX7_carriedTo_19 : decode cX7_carriedTo 19 = .ok (.if_icmp .eq 10, 3) := by decide +kernel
theorem dX7_carriedTo_22 : decode cX7_carriedTo 22 = .ok (.aload_n 0, 1) := by decide +kernel
theorem dX7_carriedTo_23 : decode cX7_carriedTo 23 = .ok (.getfield 19, 3) := by decide +kernel
theorem dX7_carriedTo_26 : decode cX7_carriedTo 26 = .ok (.iload_n 1, 1) := by decide +kernel
theorem dX7_carriedTo_27 : decode cX7_carriedTo 27 = .ok (.iaload, 1) := by decide +kernel
theorem dX7_carriedTo_28 : decode cX7_carriedTo 28 = .ok (.ireturn, 1) := by decide +kernel
theorem dX7_carriedTo_29 : decode cX7_carriedTo 29 = .ok (.aload_n 0, 1) := by decide +kernel
theorem dX7_carriedTo_30 : decode cX7_carriedTo 30 = .ok (.getfield 19, 3) := by decide +kernel
theorem dX7_carriedTo_33 : decode cX7_carriedTo 33 = .ok (.iload_n 1, 1) := by decide +kernel
theorem dX7_carriedTo_34 : decode cX7_carriedTo 34 = .ok (.iaload, 1) := by decide +kernel
theorem dX7_carriedTo_35 : decode cX7_carriedTo 35 = .ok (.iload_n 2, 1) := by decide +kernel
theorem dX7_carriedTo_36 : decode cX7_carriedTo 36 = .ok (.isub, 1) := by decide +kernel
theorem dX7_carriedTo_37 : decode cX7_carriedTo 37 = .ok (.istore_n 3, 1) := by decide +kernel
theorem dX7_carriedTo_38 : decode cX7_carriedTo 38 = .ok (.iload_n 3, 1) := by decide +kernel
theorem dX7_carriedTo_39 : decode cX7_carriedTo 39 = .ok (.invokestatic 144, 3) := by decide +kernel
theorem dX7_carriedTo_42 : decode cX7_carriedTo 42 = .ok (.aload_n 0, 1) := by decide +kernel
theorem dX7_carriedTo_43 : decode cX7_carriedTo 43 = .ok (.getfield 13, 3) := by decide +kernel
theorem dX7_carriedTo_46 : decode cX7_carriedTo 46 = .ok (.iload_n 1, 1) := by decide +kernel
theorem dX7_carriedTo_47 : decode cX7_carriedTo 47 = .ok (.iaload, 1) := by decide +kernel
theorem dX7_carriedTo_48 : decode cX7_carriedTo 48 = .ok (.if_icmp .gt 5, 3) := by decide +kernel
theorem dX7_carriedTo_51 : decode cX7_carriedTo 51 = .ok (.iload_n 2, 1) := by decide +kernel
theorem dX7_carriedTo_52 : decode cX7_carriedTo 52 = .ok (.ireturn, 1) := by decide +kernel
theorem dX7_carriedTo_53 : decode cX7_carriedTo 53 = .ok (.iload_n 3, 1) := by decide +kernel
theorem dX7_carriedTo_54 : decode cX7_carriedTo 54 = .ok (.ifCond .le 19, 3) := by decide +kernel
theorem dX7_carriedTo_57 : decode cX7_carriedTo 57 = .ok (.aload_n 0, 1) := by decide +kernel
theorem dX7_carriedTo_58 : decode cX7_carriedTo 58 = .ok (.getfield 19, 3) := by decide +kernel
theorem dX7_carriedTo_61 : decode cX7_carriedTo 61 = .ok (.iload_n 1, 1) := by decide +kernel
theorem dX7_carriedTo_62 : decode cX7_carriedTo 62 = .ok (.iaload, 1) := by decide +kernel
theorem dX7_carriedTo_63 : decode cX7_carriedTo 63 = .ok (.aload_n 0, 1) := by decide +kernel
theorem dX7_carriedTo_64 : decode cX7_carriedTo 64 = .ok (.getfield 13, 3) := by decide +kernel
theorem dX7_carriedTo_67 : decode cX7_carriedTo 67 = .ok (.iload_n 1, 1) := by decide +kernel
theorem dX7_carriedTo_68 : decode cX7_carriedTo 68 = .ok (.iaload, 1) := by decide +kernel
theorem dX7_carriedTo_69 : decode cX7_carriedTo 69 = .ok (.isub, 1) := by decide +kernel
theorem dX7_carriedTo_70 : decode cX7_carriedTo 70 = .ok (.goto 16, 3) := by decide +kernel
theorem dX7_carriedTo_73 : decode cX7_carriedTo 73 = .ok (.aload_n 0, 1) := by decide +kernel
theorem dX7_carriedTo_74 : decode cX7_carriedTo 74 = .ok (.getfield 19, 3) := by decide +kernel
theorem dX7_carriedTo_77 : decode cX7_carriedTo 77 = .ok (.iload_n 1, 1) := by decide +kernel
theorem dX7_carriedTo_78 : decode cX7_carriedTo 78 = .ok (.iaload, 1) := by decide +kernel
theorem dX7_carriedTo_79 : decode cX7_carriedTo 79 = .ok (.aload_n 0, 1) := by decide +kernel
theorem dX7_carriedTo_80 : decode cX7_carriedTo 80 = .ok (.getfield 13, 3) := by decide +kernel
theorem dX7_carriedTo_83 : decode cX7_carriedTo 83 = .ok (.iload_n 1, 1) := by decide +kernel
theorem dX7_carriedTo_84 : decode cX7_carriedTo 84 = .ok (.iaload, 1) := by decide +kernel
theorem dX7_carriedTo_85 : decode cX7_carriedTo 85 = .ok (.iadd, 1) := by decide +kernel
theorem dX7_carriedTo_86 : decode cX7_carriedTo 86 = .ok (.ireturn, 1) := by decide +kernel
theorem dX7_nearer_0 : decode cX7_nearer 0 = .ok (.bipush (-9), 2) := by decide +kernel
theorem dX7_nearer_2 : decode cX7_nearer 2 = .ok (.istore_n 2, 1) := by decide +kernel
theorem dX7_nearer_3 : decode cX7_nearer 3 = .ok (.iconst 0, 1) := by decide +kernel
theorem dX7_nearer_4 : decode cX7_nearer 4 = .ok (.istore_n 3, 1) := by decide +kernel
theorem dX7_nearer_5 : decode cX7_nearer 5 = .ok (.iload_n 3, 1) := by decide +kernel
theorem dX7_nearer_6 : decode cX7_nearer 6 = .ok (.aload_n 0, 1) := by decide +kernel
theorem dX7_nearer_7 : decode cX7_nearer 7 = .ok (.getfield 153, 3) := by decide +kernel
theorem dX7_nearer_10 : decode cX7_nearer 10 = .ok (.if_icmp .ge 61, 3) := by decide +kernel
theorem dX7_nearer_13 : decode cX7_nearer 13 = .ok (.aload_n 0, 1) := by decide +kernel
theorem dX7_nearer_14 : decode cX7_nearer 14 = .ok (.getfield 52, 3) := by decide +kernel
theorem dX7_nearer_17 : decode cX7_nearer 17 = .ok (.iload_n 3, 1) := by decide +kernel
theorem dX7_nearer_18 : decode cX7_nearer 18 = .ok (.iaload, 1) := by decide +kernel
theorem dX7_nearer_19 : decode cX7_nearer 19 = .ok (.ifCond .le 46, 3) := by decide +kernel
theorem dX7_nearer_22 : decode cX7_nearer 22 = .ok (.iload_n 2, 1) := by decide +kernel
theorem dX7_nearer_23 : decode cX7_nearer 23 = .ok (.bipush (-9), 2) := by decide +kernel
theorem dX7_nearer_25 : decode cX7_nearer 25 = .ok (.if_icmp .eq 38, 3) := by decide +kernel
theorem dX7_nearer_28 : decode cX7_nearer 28 = .ok (.aload_n 0, 1) := by decide +kernel
theorem dX7_nearer_29 : decode cX7_nearer 29 = .ok (.getfield 49, 3) := by decide +kernel
theorem dX7_nearer_32 : decode cX7_nearer 32 = .ok (.iload_n 3, 1) := by decide +kernel
theorem dX7_nearer_33 : decode cX7_nearer 33 = .ok (.iaload, 1) := by decide +kernel
theorem dX7_nearer_34 : decode cX7_nearer 34 = .ok (.aload_n 0, 1) := by decide +kernel
theorem dX7_nearer_35 : decode cX7_nearer 35 = .ok (.getfield 16, 3) := by decide +kernel
theorem dX7_nearer_38 : decode cX7_nearer 38 = .ok (.iload_n 1, 1) := by decide +kernel
theorem dX7_nearer_39 : decode cX7_nearer 39 = .ok (.iaload, 1) := by decide +kernel
theorem dX7_nearer_40 : decode cX7_nearer 40 = .ok (.isub, 1) := by decide +kernel
theorem dX7_nearer_41 : decode cX7_nearer 41 = .ok (.invokestatic 144, 3) := by decide +kernel
theorem dX7_nearer_44 : decode cX7_nearer 44 = .ok (.aload_n 0, 1) := by decide +kernel
theorem dX7_nearer_45 : decode cX7_nearer 45 = .ok (.getfield 49, 3) := by decide +kernel
theorem dX7_nearer_48 : decode cX7_nearer 48 = .ok (.iload_n 2, 1) := by decide +kernel
theorem dX7_nearer_49 : decode cX7_nearer 49 = .ok (.iaload, 1) := by decide +kernel
theorem dX7_nearer_50 : decode cX7_nearer 50 = .ok (.aload_n 0, 1) := by decide +kernel
theorem dX7_nearer_51 : decode cX7_nearer 51 = .ok (.getfield 16, 3) := by decide +kernel
theorem dX7_nearer_54 : decode cX7_nearer 54 = .ok (.iload_n 1, 1) := by decide +kernel
theorem dX7_nearer_55 : decode cX7_nearer 55 = .ok (.iaload, 1) := by decide +kernel
theorem dX7_nearer_56 : decode cX7_nearer 56 = .ok (.isub, 1) := by decide +kernel
theorem dX7_nearer_57 : decode cX7_nearer 57 = .ok (.invokestatic 144, 3) := by decide +kernel
theorem dX7_nearer_60 : decode cX7_nearer 60 = .ok (.if_icmp .ge 5, 3) := by decide +kernel
theorem dX7_nearer_63 : decode cX7_nearer 63 = .ok (.iload_n 3, 1) := by decide +kernel
theorem dX7_nearer_64 : decode cX7_nearer 64 = .ok (.istore_n 2, 1) := by decide +kernel
theorem dX7_nearer_65 : decode cX7_nearer 65 = .ok (.iinc 3 1, 3) := by decide +kernel
theorem dX7_nearer_68 : decode cX7_nearer 68 = .ok (.goto (-63), 3) := by decide +kernel
theorem dX7_nearer_71 : decode cX7_nearer 71 = .ok (.iload_n 2, 1) := by decide +kernel
theorem dX7_nearer_72 : decode cX7_nearer 72 = .ok (.ireturn, 1) := by decide +kernel
theorem dX7_goes_0 : decode cX7_goes 0 = .ok (.aload_n 0, 1) := by decide +kernel
theorem dX7_goes_1 : decode cX7_goes 1 = .ok (.getfield 55, 3) := by decide +kernel
theorem dX7_goes_4 : decode cX7_goes 4 = .ok (.iload_n 1, 1) := by decide +kernel
theorem dX7_goes_5 : decode cX7_goes 5 = .ok (.iconst 0, 1) := by decide +kernel
theorem dX7_goes_6 : decode cX7_goes 6 = .ok (.iastore, 1) := by decide +kernel
theorem dX7_goes_7 : decode cX7_goes 7 = .ok (.aload_n 0, 1) := by decide +kernel
theorem dX7_goes_8 : decode cX7_goes 8 = .ok (.getfield 58, 3) := by decide +kernel
theorem dX7_goes_11 : decode cX7_goes 11 = .ok (.iload_n 1, 1) := by decide +kernel
theorem dX7_goes_12 : decode cX7_goes 12 = .ok (.iconst 0, 1) := by decide +kernel
theorem dX7_goes_13 : decode cX7_goes 13 = .ok (.iastore, 1) := by decide +kernel
theorem dX7_goes_14 : decode cX7_goes 14 = .ok (.aload_n 0, 1) := by decide +kernel
theorem dX7_goes_15 : decode cX7_goes 15 = .ok (.getfield 61, 3) := by decide +kernel
theorem dX7_goes_18 : decode cX7_goes 18 = .ok (.iload_n 1, 1) := by decide +kernel
theorem dX7_goes_19 : decode cX7_goes 19 = .ok (.aload_n 0, 1) := by decide +kernel
theorem dX7_goes_20 : decode cX7_goes 20 = .ok (.getfield 49, 3) := by decide +kernel
theorem dX7_goes_23 : decode cX7_goes 23 = .ok (.iconst 0, 1) := by decide +kernel
theorem dX7_goes_24 : decode cX7_goes 24 = .ok (.iaload, 1) := by decide +kernel
theorem dX7_goes_25 : decode cX7_goes 25 = .ok (.iastore, 1) := by decide +kernel
theorem dX7_goes_26 : decode cX7_goes 26 = .ok (.aload_n 0, 1) := by decide +kernel
theorem dX7_goes_27 : decode cX7_goes 27 = .ok (.iload_n 1, 1) := by decide +kernel
theorem dX7_goes_28 : decode cX7_goes 28 = .ok (.invokevirtual 156, 3) := by decide +kernel
theorem dX7_goes_31 : decode cX7_goes 31 = .ok (.istore_n 2, 1) := by decide +kernel
theorem dX7_goes_32 : decode cX7_goes 32 = .ok (.iload_n 2, 1) := by decide +kernel
theorem dX7_goes_33 : decode cX7_goes 33 = .ok (.bipush (-9), 2) := by decide +kernel
theorem dX7_goes_35 : decode cX7_goes 35 = .ok (.if_icmp .eq 27, 3) := by decide +kernel
theorem dX7_goes_38 : decode cX7_goes 38 = .ok (.aload_n 0, 1) := by decide +kernel
theorem dX7_goes_39 : decode cX7_goes 39 = .ok (.getfield 49, 3) := by decide +kernel
theorem dX7_goes_42 : decode cX7_goes 42 = .ok (.iload_n 2, 1) := by decide +kernel
theorem dX7_goes_43 : decode cX7_goes 43 = .ok (.iaload, 1) := by decide +kernel
theorem dX7_goes_44 : decode cX7_goes 44 = .ok (.aload_n 0, 1) := by decide +kernel
theorem dX7_goes_45 : decode cX7_goes 45 = .ok (.getfield 16, 3) := by decide +kernel
theorem dX7_goes_48 : decode cX7_goes 48 = .ok (.iload_n 1, 1) := by decide +kernel
theorem dX7_goes_49 : decode cX7_goes 49 = .ok (.iaload, 1) := by decide +kernel
theorem dX7_goes_50 : decode cX7_goes 50 = .ok (.isub, 1) := by decide +kernel
theorem dX7_goes_51 : decode cX7_goes 51 = .ok (.invokestatic 144, 3) := by decide +kernel
theorem dX7_goes_54 : decode cX7_goes 54 = .ok (.aload_n 0, 1) := by decide +kernel
theorem dX7_goes_55 : decode cX7_goes 55 = .ok (.iload_n 1, 1) := by decide +kernel
theorem dX7_goes_56 : decode cX7_goes 56 = .ok (.invokevirtual 135, 3) := by decide +kernel
theorem dX7_goes_59 : decode cX7_goes 59 = .ok (.if_icmp .le 29, 3) := by decide +kernel
theorem dX7_goes_62 : decode cX7_goes 62 = .ok (.aload_n 0, 1) := by decide +kernel
theorem dX7_goes_63 : decode cX7_goes 63 = .ok (.getfield 64, 3) := by decide +kernel
theorem dX7_goes_66 : decode cX7_goes 66 = .ok (.iload_n 1, 1) := by decide +kernel
theorem dX7_goes_67 : decode cX7_goes 67 = .ok (.bipush (-9), 2) := by decide +kernel
theorem dX7_goes_69 : decode cX7_goes 69 = .ok (.iastore, 1) := by decide +kernel
theorem dX7_goes_70 : decode cX7_goes 70 = .ok (.aload_n 0, 1) := by decide +kernel
theorem dX7_goes_71 : decode cX7_goes 71 = .ok (.iload_n 1, 1) := by decide +kernel
theorem dX7_goes_72 : decode cX7_goes 72 = .ok (.aload_n 0, 1) := by decide +kernel
theorem dX7_goes_73 : decode cX7_goes 73 = .ok (.getfield 16, 3) := by decide +kernel
theorem dX7_goes_76 : decode cX7_goes 76 = .ok (.iload_n 1, 1) := by decide +kernel
theorem dX7_goes_77 : decode cX7_goes 77 = .ok (.iaload, 1) := by decide +kernel
theorem dX7_goes_78 : decode cX7_goes 78 = .ok (.aload_n 0, 1) := by decide +kernel
theorem dX7_goes_79 : decode cX7_goes 79 = .ok (.getfield 19, 3) := by decide +kernel
theorem dX7_goes_82 : decode cX7_goes 82 = .ok (.iload_n 1, 1) := by decide +kernel
theorem dX7_goes_83 : decode cX7_goes 83 = .ok (.iaload, 1) := by decide +kernel
theorem dX7_goes_84 : decode cX7_goes 84 = .ok (.invokevirtual 159, 3) := by decide +kernel
theorem dX7_goes_87 : decode cX7_goes 87 = .ok (.return_, 1) := by decide +kernel
theorem dX7_goes_88 : decode cX7_goes 88 = .ok (.aload_n 0, 1) := by decide +kernel
theorem dX7_goes_89 : decode cX7_goes 89 = .ok (.getfield 64, 3) := by decide +kernel
theorem dX7_goes_92 : decode cX7_goes 92 = .ok (.iload_n 1, 1) := by decide +kernel
theorem dX7_goes_93 : decode cX7_goes 93 = .ok (.iload_n 2, 1) := by decide +kernel
theorem dX7_goes_94 : decode cX7_goes 94 = .ok (.iastore, 1) := by decide +kernel
theorem dX7_goes_95 : decode cX7_goes 95 = .ok (.aload_n 0, 1) := by decide +kernel
theorem dX7_goes_96 : decode cX7_goes 96 = .ok (.iload_n 1, 1) := by decide +kernel
theorem dX7_goes_97 : decode cX7_goes 97 = .ok (.putfield 163, 3) := by decide +kernel
theorem dX7_goes_100 : decode cX7_goes 100 = .ok (.aload_n 0, 1) := by decide +kernel
theorem dX7_goes_101 : decode cX7_goes 101 = .ok (.iload_n 1, 1) := by decide +kernel
theorem dX7_goes_102 : decode cX7_goes 102 = .ok (.aload_n 0, 1) := by decide +kernel
theorem dX7_goes_103 : decode cX7_goes 103 = .ok (.getfield 16, 3) := by decide +kernel
theorem dX7_goes_106 : decode cX7_goes 106 = .ok (.iload_n 1, 1) := by decide +kernel
theorem dX7_goes_107 : decode cX7_goes 107 = .ok (.iaload, 1) := by decide +kernel
theorem dX7_goes_108 : decode cX7_goes 108 = .ok (.aload_n 0, 1) := by decide +kernel
theorem dX7_goes_109 : decode cX7_goes 109 = .ok (.getfield 49, 3) := by decide +kernel
theorem dX7_goes_112 : decode cX7_goes 112 = .ok (.iload_n 2, 1) := by decide +kernel
theorem dX7_goes_113 : decode cX7_goes 113 = .ok (.iaload, 1) := by decide +kernel
theorem dX7_goes_114 : decode cX7_goes 114 = .ok (.invokevirtual 159, 3) := by decide +kernel
theorem dX7_goes_117 : decode cX7_goes 117 = .ok (.aload_n 0, 1) := by decide +kernel
theorem dX7_goes_118 : decode cX7_goes 118 = .ok (.iload_n 1, 1) := by decide +kernel
theorem dX7_goes_119 : decode cX7_goes 119 = .ok (.iload_n 2, 1) := by decide +kernel
theorem dX7_goes_120 : decode cX7_goes 120 = .ok (.aload_n 0, 1) := by decide +kernel
theorem dX7_goes_121 : decode cX7_goes 121 = .ok (.iload_n 1, 1) := by decide +kernel
theorem dX7_goes_122 : decode cX7_goes 122 = .ok (.aload_n 0, 1) := by decide +kernel
theorem dX7_goes_123 : decode cX7_goes 123 = .ok (.getfield 49, 3) := by decide +kernel
theorem dX7_goes_126 : decode cX7_goes 126 = .ok (.iload_n 2, 1) := by decide +kernel
theorem dX7_goes_127 : decode cX7_goes 127 = .ok (.iaload, 1) := by decide +kernel
theorem dX7_goes_128 : decode cX7_goes 128 = .ok (.invokevirtual 166, 3) := by decide +kernel
theorem dX7_goes_131 : decode cX7_goes 131 = .ok (.invokevirtual 169, 3) := by decide +kernel
theorem dX7_goes_134 : decode cX7_goes 134 = .ok (.aload_n 0, 1) := by decide +kernel
theorem dX7_goes_135 : decode cX7_goes 135 = .ok (.iload_n 1, 1) := by decide +kernel
theorem dX7_goes_136 : decode cX7_goes 136 = .ok (.aload_n 0, 1) := by decide +kernel
theorem dX7_goes_137 : decode cX7_goes 137 = .ok (.getfield 49, 3) := by decide +kernel
theorem dX7_goes_140 : decode cX7_goes 140 = .ok (.iload_n 2, 1) := by decide +kernel
theorem dX7_goes_141 : decode cX7_goes 141 = .ok (.iaload, 1) := by decide +kernel
theorem dX7_goes_142 : decode cX7_goes 142 = .ok (.aload_n 0, 1) := by decide +kernel
theorem dX7_goes_143 : decode cX7_goes 143 = .ok (.getfield 19, 3) := by decide +kernel
theorem dX7_goes_146 : decode cX7_goes 146 = .ok (.iload_n 1, 1) := by decide +kernel
theorem dX7_goes_147 : decode cX7_goes 147 = .ok (.iaload, 1) := by decide +kernel
theorem dX7_goes_148 : decode cX7_goes 148 = .ok (.invokevirtual 159, 3) := by decide +kernel
theorem dX7_goes_151 : decode cX7_goes 151 = .ok (.aload_n 0, 1) := by decide +kernel
theorem dX7_goes_152 : decode cX7_goes 152 = .ok (.getfield 7, 3) := by decide +kernel
theorem dX7_goes_155 : decode cX7_goes 155 = .ok (.iload_n 1, 1) := by decide +kernel
theorem dX7_goes_156 : decode cX7_goes 156 = .ok (.iaload, 1) := by decide +kernel
theorem dX7_goes_157 : decode cX7_goes 157 = .ok (.iconst 3, 1) := by decide +kernel
theorem dX7_goes_158 : decode cX7_goes 158 = .ok (.if_icmp .ne 15, 3) := by decide +kernel
theorem dX7_goes_161 : decode cX7_goes 161 = .ok (.aload_n 0, 1) := by decide +kernel
theorem dX7_goes_162 : decode cX7_goes 162 = .ok (.iload_n 1, 1) := by decide +kernel
theorem dX7_goes_163 : decode cX7_goes 163 = .ok (.iload_n 2, 1) := by decide +kernel
theorem dX7_goes_164 : decode cX7_goes 164 = .ok (.aload_n 0, 1) := by decide +kernel
theorem dX7_goes_165 : decode cX7_goes 165 = .ok (.getfield 25, 3) := by decide +kernel
theorem dX7_goes_168 : decode cX7_goes 168 = .ok (.iconst 0, 1) := by decide +kernel
theorem dX7_goes_169 : decode cX7_goes 169 = .ok (.iaload, 1) := by decide +kernel
theorem dX7_goes_170 : decode cX7_goes 170 = .ok (.invokevirtual 169, 3) := by decide +kernel
theorem dX7_goes_173 : decode cX7_goes 173 = .ok (.aload_n 0, 1) := by decide +kernel
theorem dX7_goes_174 : decode cX7_goes 174 = .ok (.getfield 7, 3) := by decide +kernel
theorem dX7_goes_177 : decode cX7_goes 177 = .ok (.iload_n 1, 1) := by decide +kernel
theorem dX7_goes_178 : decode cX7_goes 178 = .ok (.iaload, 1) := by decide +kernel
theorem dX7_goes_179 : decode cX7_goes 179 = .ok (.iconst 4, 1) := by decide +kernel
theorem dX7_goes_180 : decode cX7_goes 180 = .ok (.if_icmp .ne 15, 3) := by decide +kernel
theorem dX7_goes_183 : decode cX7_goes 183 = .ok (.aload_n 0, 1) := by decide +kernel
theorem dX7_goes_184 : decode cX7_goes 184 = .ok (.iload_n 1, 1) := by decide +kernel
theorem dX7_goes_185 : decode cX7_goes 185 = .ok (.iload_n 2, 1) := by decide +kernel
theorem dX7_goes_186 : decode cX7_goes 186 = .ok (.aload_n 0, 1) := by decide +kernel
theorem dX7_goes_187 : decode cX7_goes 187 = .ok (.getfield 16, 3) := by decide +kernel
theorem dX7_goes_190 : decode cX7_goes 190 = .ok (.iload_n 1, 1) := by decide +kernel
theorem dX7_goes_191 : decode cX7_goes 191 = .ok (.iaload, 1) := by decide +kernel
theorem dX7_goes_192 : decode cX7_goes 192 = .ok (.invokevirtual 169, 3) := by decide +kernel
theorem dX7_goes_195 : decode cX7_goes 195 = .ok (.return_, 1) := by decide +kernel
theorem dX7_sets_0 : decode cX7_sets 0 = .ok (.aload_n 0, 1) := by decide +kernel
theorem dX7_sets_1 : decode cX7_sets 1 = .ok (.iload_n 1, 1) := by decide +kernel
theorem dX7_sets_2 : decode cX7_sets 2 = .ok (.bipush (-9), 2) := by decide +kernel
theorem dX7_sets_4 : decode cX7_sets 4 = .ok (.if_icmp .ne 7, 3) := by decide +kernel
theorem dX7_sets_7 : decode cX7_sets 7 = .ok (.iconst 1, 1) := by decide +kernel
theorem dX7_sets_8 : decode cX7_sets 8 = .ok (.goto 4, 3) := by decide +kernel
theorem dX7_sets_11 : decode cX7_sets 11 = .ok (.iconst 2, 1) := by decide +kernel
theorem dX7_sets_12 : decode cX7_sets 12 = .ok (.putfield 153, 3) := by decide +kernel
theorem dX7_sets_15 : decode cX7_sets 15 = .ok (.aload_n 0, 1) := by decide +kernel
theorem dX7_sets_16 : decode cX7_sets 16 = .ok (.getfield 49, 3) := by decide +kernel
theorem dX7_sets_19 : decode cX7_sets 19 = .ok (.iconst 0, 1) := by decide +kernel
theorem dX7_sets_20 : decode cX7_sets 20 = .ok (.aload_n 0, 1) := by decide +kernel
theorem dX7_sets_21 : decode cX7_sets 21 = .ok (.getfield 25, 3) := by decide +kernel
theorem dX7_sets_24 : decode cX7_sets 24 = .ok (.iconst 0, 1) := by decide +kernel
theorem dX7_sets_25 : decode cX7_sets 25 = .ok (.iaload, 1) := by decide +kernel
theorem dX7_sets_26 : decode cX7_sets 26 = .ok (.iastore, 1) := by decide +kernel
theorem dX7_sets_27 : decode cX7_sets 27 = .ok (.aload_n 0, 1) := by decide +kernel
theorem dX7_sets_28 : decode cX7_sets 28 = .ok (.getfield 49, 3) := by decide +kernel
theorem dX7_sets_31 : decode cX7_sets 31 = .ok (.iconst 1, 1) := by decide +kernel
theorem dX7_sets_32 : decode cX7_sets 32 = .ok (.iload_n 1, 1) := by decide +kernel
theorem dX7_sets_33 : decode cX7_sets 33 = .ok (.iastore, 1) := by decide +kernel
theorem dX7_sets_34 : decode cX7_sets 34 = .ok (.aload_n 0, 1) := by decide +kernel
theorem dX7_sets_35 : decode cX7_sets 35 = .ok (.getfield 52, 3) := by decide +kernel
theorem dX7_sets_38 : decode cX7_sets 38 = .ok (.iconst 0, 1) := by decide +kernel
theorem dX7_sets_39 : decode cX7_sets 39 = .ok (.aload_n 0, 1) := by decide +kernel
theorem dX7_sets_40 : decode cX7_sets 40 = .ok (.getfield 25, 3) := by decide +kernel
theorem dX7_sets_43 : decode cX7_sets 43 = .ok (.iconst 1, 1) := by decide +kernel
theorem dX7_sets_44 : decode cX7_sets 44 = .ok (.iaload, 1) := by decide +kernel
theorem dX7_sets_45 : decode cX7_sets 45 = .ok (.iastore, 1) := by decide +kernel
theorem dX7_sets_46 : decode cX7_sets 46 = .ok (.aload_n 0, 1) := by decide +kernel
theorem dX7_sets_47 : decode cX7_sets 47 = .ok (.getfield 52, 3) := by decide +kernel
theorem dX7_sets_50 : decode cX7_sets 50 = .ok (.iconst 1, 1) := by decide +kernel
theorem dX7_sets_51 : decode cX7_sets 51 = .ok (.aload_n 0, 1) := by decide +kernel
theorem dX7_sets_52 : decode cX7_sets 52 = .ok (.getfield 25, 3) := by decide +kernel
theorem dX7_sets_55 : decode cX7_sets 55 = .ok (.iconst 1, 1) := by decide +kernel
theorem dX7_sets_56 : decode cX7_sets 56 = .ok (.iaload, 1) := by decide +kernel
theorem dX7_sets_57 : decode cX7_sets 57 = .ok (.iastore, 1) := by decide +kernel
theorem dX7_sets_58 : decode cX7_sets 58 = .ok (.aload_n 0, 1) := by decide +kernel
theorem dX7_sets_59 : decode cX7_sets 59 = .ok (.bipush (-9), 2) := by decide +kernel
theorem dX7_sets_61 : decode cX7_sets 61 = .ok (.putfield 163, 3) := by decide +kernel
theorem dX7_sets_64 : decode cX7_sets 64 = .ok (.return_, 1) := by decide +kernel
theorem dX7_run_0 : decode cX7_run 0 = .ok (.aload_n 0, 1) := by decide +kernel
theorem dX7_run_1 : decode cX7_run 1 = .ok (.iload_n 2, 1) := by decide +kernel
theorem dX7_run_2 : decode cX7_run 2 = .ok (.invokevirtual 172, 3) := by decide +kernel
theorem dX7_run_5 : decode cX7_run 5 = .ok (.aload_n 0, 1) := by decide +kernel
theorem dX7_run_6 : decode cX7_run 6 = .ok (.iconst 0, 1) := by decide +kernel
theorem dX7_run_7 : decode cX7_run 7 = .ok (.putfield 176, 3) := by decide +kernel
theorem dX7_run_10 : decode cX7_run 10 = .ok (.iconst 0, 1) := by decide +kernel
theorem dX7_run_11 : decode cX7_run 11 = .ok (.istore_n 3, 1) := by decide +kernel
theorem dX7_run_12 : decode cX7_run 12 = .ok (.iload_n 3, 1) := by decide +kernel
theorem dX7_run_13 : decode cX7_run 13 = .ok (.bipush 12, 2) := by decide +kernel
theorem dX7_run_15 : decode cX7_run 15 = .ok (.if_icmp .ge 83, 3) := by decide +kernel
theorem dX7_run_18 : decode cX7_run 18 = .ok (.iconst 0, 1) := by decide +kernel
theorem dX7_run_19 : decode cX7_run 19 = .ok (.istore 4, 2) := by decide +kernel
theorem dX7_run_21 : decode cX7_run 21 = .ok (.iload 4, 2) := by decide +kernel
theorem dX7_run_23 : decode cX7_run 23 = .ok (.aload_n 0, 1) := by decide +kernel
theorem dX7_run_24 : decode cX7_run 24 = .ok (.getfield 84, 3) := by decide +kernel
theorem dX7_run_27 : decode cX7_run 27 = .ok (.if_icmp .ge 53, 3) := by decide +kernel
theorem dX7_run_30 : decode cX7_run 30 = .ok (.aload_n 0, 1) := by decide +kernel
theorem dX7_run_31 : decode cX7_run 31 = .ok (.getfield 22, 3) := by decide +kernel
theorem dX7_run_34 : decode cX7_run 34 = .ok (.iload 4, 2) := by decide +kernel
theorem dX7_run_36 : decode cX7_run 36 = .ok (.iaload, 1) := by decide +kernel
theorem dX7_run_37 : decode cX7_run 37 = .ok (.iload_n 3, 1) := by decide +kernel
theorem dX7_run_38 : decode cX7_run 38 = .ok (.if_icmp .ne 36, 3) := by decide +kernel
theorem dX7_run_41 : decode cX7_run 41 = .ok (.iload 4, 2) := by decide +kernel
theorem dX7_run_43 : decode cX7_run 43 = .ok (.iload_n 1, 1) := by decide +kernel
theorem dX7_run_44 : decode cX7_run 44 = .ok (.if_icmp .ne 6, 3) := by decide +kernel
theorem dX7_run_47 : decode cX7_run 47 = .ok (.goto 27, 3) := by decide +kernel
theorem dX7_run_50 : decode cX7_run 50 = .ok (.aload_n 0, 1) := by decide +kernel
theorem dX7_run_51 : decode cX7_run 51 = .ok (.iload 4, 2) := by decide +kernel
theorem dX7_run_53 : decode cX7_run 53 = .ok (.invokevirtual 179, 3) := by decide +kernel
theorem dX7_run_56 : decode cX7_run 56 = .ok (.aload_n 0, 1) := by decide +kernel
theorem dX7_run_57 : decode cX7_run 57 = .ok (.getfield 46, 3) := by decide +kernel
theorem dX7_run_60 : decode cX7_run 60 = .ok (.aload_n 0, 1) := by decide +kernel
theorem dX7_run_61 : decode cX7_run 61 = .ok (.dup, 1) := by decide +kernel
theorem dX7_run_62 : decode cX7_run 62 = .ok (.getfield 176, 3) := by decide +kernel
theorem dX7_run_65 : decode cX7_run 65 = .ok (.dup_x1, 1) := by decide +kernel
theorem dX7_run_66 : decode cX7_run 66 = .ok (.iconst 1, 1) := by decide +kernel
theorem dX7_run_67 : decode cX7_run 67 = .ok (.iadd, 1) := by decide +kernel
theorem dX7_run_68 : decode cX7_run 68 = .ok (.putfield 176, 3) := by decide +kernel
theorem dX7_run_71 : decode cX7_run 71 = .ok (.iload 4, 2) := by decide +kernel
theorem dX7_run_73 : decode cX7_run 73 = .ok (.iastore, 1) := by decide +kernel
theorem dX7_run_74 : decode cX7_run 74 = .ok (.iinc 4 1, 3) := by decide +kernel
theorem dX7_run_77 : decode cX7_run 77 = .ok (.goto (-56), 3) := by decide +kernel
theorem dX7_run_80 : decode cX7_run 80 = .ok (.aload_n 0, 1) := by decide +kernel
theorem dX7_run_81 : decode cX7_run 81 = .ok (.getfield 67, 3) := by decide +kernel
theorem dX7_run_84 : decode cX7_run 84 = .ok (.iload_n 3, 1) := by decide +kernel
theorem dX7_run_85 : decode cX7_run 85 = .ok (.aload_n 0, 1) := by decide +kernel
theorem dX7_run_86 : decode cX7_run 86 = .ok (.getfield 49, 3) := by decide +kernel
theorem dX7_run_89 : decode cX7_run 89 = .ok (.iconst 0, 1) := by decide +kernel
theorem dX7_run_90 : decode cX7_run 90 = .ok (.iaload, 1) := by decide +kernel
theorem dX7_run_91 : decode cX7_run 91 = .ok (.iastore, 1) := by decide +kernel
theorem dX7_run_92 : decode cX7_run 92 = .ok (.iinc 3 1, 3) := by decide +kernel
theorem dX7_run_95 : decode cX7_run 95 = .ok (.goto (-83), 3) := by decide +kernel
theorem dX7_run_98 : decode cX7_run 98 = .ok (.return_, 1) := by decide +kernel
theorem dX7_run__0 : decode cX7_run_ 0 = .ok (.aload_n 0, 1) := by decide +kernel
theorem dX7_run__1 : decode cX7_run_ 1 = .ok (.bipush (-9), 2) := by decide +kernel
theorem dX7_run__3 : decode cX7_run_ 3 = .ok (.bipush (-9), 2) := by decide +kernel
theorem dX7_run__5 : decode cX7_run_ 5 = .ok (.invokevirtual 182, 3) := by decide +kernel
theorem dX7_run__8 : decode cX7_run_ 8 = .ok (.return_, 1) := by decide +kernel
theorem dX7_cost_0 : decode cX7_cost 0 = .ok (.iconst 0, 1) := by decide +kernel
theorem dX7_cost_1 : decode cX7_cost 1 = .ok (.istore_n 1, 1) := by decide +kernel
theorem dX7_cost_2 : decode cX7_cost 2 = .ok (.iconst 0, 1) := by decide +kernel
theorem dX7_cost_3 : decode cX7_cost 3 = .ok (.istore_n 2, 1) := by decide +kernel
theorem dX7_cost_4 : decode cX7_cost 4 = .ok (.iload_n 2, 1) := by decide +kernel
theorem dX7_cost_5 : decode cX7_cost 5 = .ok (.aload_n 0, 1) := by decide +kernel
theorem dX7_cost_6 : decode cX7_cost 6 = .ok (.getfield 176, 3) := by decide +kernel
theorem dX7_cost_9 : decode cX7_cost 9 = .ok (.if_icmp .ge 34, 3) := by decide +kernel
theorem dX7_cost_12 : decode cX7_cost 12 = .ok (.iload_n 1, 1) := by decide +kernel
theorem dX7_cost_13 : decode cX7_cost 13 = .ok (.aload_n 0, 1) := by decide +kernel
theorem dX7_cost_14 : decode cX7_cost 14 = .ok (.getfield 55, 3) := by decide +kernel
theorem dX7_cost_17 : decode cX7_cost 17 = .ok (.aload_n 0, 1) := by decide +kernel
theorem dX7_cost_18 : decode cX7_cost 18 = .ok (.getfield 46, 3) := by decide +kernel
theorem dX7_cost_21 : decode cX7_cost 21 = .ok (.iload_n 2, 1) := by decide +kernel
theorem dX7_cost_22 : decode cX7_cost 22 = .ok (.iaload, 1) := by decide +kernel
theorem dX7_cost_23 : decode cX7_cost 23 = .ok (.iaload, 1) := by decide +kernel
theorem dX7_cost_24 : decode cX7_cost 24 = .ok (.aload_n 0, 1) := by decide +kernel
theorem dX7_cost_25 : decode cX7_cost 25 = .ok (.aload_n 0, 1) := by decide +kernel
theorem dX7_cost_26 : decode cX7_cost 26 = .ok (.getfield 46, 3) := by decide +kernel
theorem dX7_cost_29 : decode cX7_cost 29 = .ok (.iload_n 2, 1) := by decide +kernel
theorem dX7_cost_30 : decode cX7_cost 30 = .ok (.iaload, 1) := by decide +kernel
theorem dX7_cost_31 : decode cX7_cost 31 = .ok (.invokevirtual 138, 3) := by decide +kernel
theorem dX7_cost_34 : decode cX7_cost 34 = .ok (.imul, 1) := by decide +kernel
theorem dX7_cost_35 : decode cX7_cost 35 = .ok (.iadd, 1) := by decide +kernel
theorem dX7_cost_36 : decode cX7_cost 36 = .ok (.istore_n 1, 1) := by decide +kernel
theorem dX7_cost_37 : decode cX7_cost 37 = .ok (.iinc 2 1, 3) := by decide +kernel
theorem dX7_cost_40 : decode cX7_cost 40 = .ok (.goto (-36), 3) := by decide +kernel
theorem dX7_cost_43 : decode cX7_cost 43 = .ok (.iload_n 1, 1) := by decide +kernel
theorem dX7_cost_44 : decode cX7_cost 44 = .ok (.ireturn, 1) := by decide +kernel
theorem dX7_costNow_0 : decode cX7_costNow 0 = .ok (.aload_n 0, 1) := by decide +kernel
theorem dX7_costNow_1 : decode cX7_costNow 1 = .ok (.invokevirtual 186, 3) := by decide +kernel
theorem dX7_costNow_4 : decode cX7_costNow 4 = .ok (.aload_n 0, 1) := by decide +kernel
theorem dX7_costNow_5 : decode cX7_costNow 5 = .ok (.invokevirtual 188, 3) := by decide +kernel
theorem dX7_costNow_8 : decode cX7_costNow 8 = .ok (.ireturn, 1) := by decide +kernel
theorem dX7_sums_0 : decode cX7_sums 0 = .ok (.iload_n 1, 1) := by decide +kernel
theorem dX7_sums_1 : decode cX7_sums 1 = .ok (.iconst 0, 1) := by decide +kernel
theorem dX7_sums_2 : decode cX7_sums 2 = .ok (.bipush 6, 2) := by decide +kernel
theorem dX7_sums_4 : decode cX7_sums 4 = .ok (.invokestatic 88, 3) := by decide +kernel
theorem dX7_sums_7 : decode cX7_sums 7 = .ok (.ifCond .ne 10, 3) := by decide +kernel
theorem dX7_sums_10 : decode cX7_sums 10 = .ok (.aload_n 0, 1) := by decide +kernel
theorem dX7_sums_11 : decode cX7_sums 11 = .ok (.bipush (-2), 2) := by decide +kernel
theorem dX7_sums_13 : decode cX7_sums 13 = .ok (.invokevirtual 80, 3) := by decide +kernel
theorem dX7_sums_16 : decode cX7_sums 16 = .ok (.ireturn, 1) := by decide +kernel
theorem dX7_sums_17 : decode cX7_sums 17 = .ok (.aload_n 0, 1) := by decide +kernel
theorem dX7_sums_18 : decode cX7_sums 18 = .ok (.invokevirtual 186, 3) := by decide +kernel
theorem dX7_sums_21 : decode cX7_sums 21 = .ok (.iconst 0, 1) := by decide +kernel
theorem dX7_sums_22 : decode cX7_sums 22 = .ok (.istore_n 2, 1) := by decide +kernel
theorem dX7_sums_23 : decode cX7_sums 23 = .ok (.iload_n 1, 1) := by decide +kernel
theorem dX7_sums_24 : decode cX7_sums 24 = .ok (.tableswitch 68 0 6 #[44, 68, 68, 49, 56, 68, 63], 44) := by decide +kernel
theorem dX7_sums_68 : decode cX7_sums 68 = .ok (.aload_n 0, 1) := by decide +kernel
theorem dX7_sums_69 : decode cX7_sums 69 = .ok (.invokevirtual 188, 3) := by decide +kernel
theorem dX7_sums_72 : decode cX7_sums 72 = .ok (.ireturn, 1) := by decide +kernel
theorem dX7_sums_73 : decode cX7_sums 73 = .ok (.aload_n 0, 1) := by decide +kernel
theorem dX7_sums_74 : decode cX7_sums 74 = .ok (.getfield 49, 3) := by decide +kernel
theorem dX7_sums_77 : decode cX7_sums 77 = .ok (.iconst 0, 1) := by decide +kernel
theorem dX7_sums_78 : decode cX7_sums 78 = .ok (.iaload, 1) := by decide +kernel
theorem dX7_sums_79 : decode cX7_sums 79 = .ok (.ireturn, 1) := by decide +kernel
theorem dX7_sums_80 : decode cX7_sums 80 = .ok (.aload_n 0, 1) := by decide +kernel
theorem dX7_sums_81 : decode cX7_sums 81 = .ok (.getfield 52, 3) := by decide +kernel
theorem dX7_sums_84 : decode cX7_sums 84 = .ok (.iconst 0, 1) := by decide +kernel
theorem dX7_sums_85 : decode cX7_sums 85 = .ok (.iaload, 1) := by decide +kernel
theorem dX7_sums_86 : decode cX7_sums 86 = .ok (.ireturn, 1) := by decide +kernel
theorem dX7_sums_87 : decode cX7_sums 87 = .ok (.aload_n 0, 1) := by decide +kernel
theorem dX7_sums_88 : decode cX7_sums 88 = .ok (.getfield 163, 3) := by decide +kernel
theorem dX7_sums_91 : decode cX7_sums 91 = .ok (.ireturn, 1) := by decide +kernel
theorem dX7_sums_92 : decode cX7_sums 92 = .ok (.iconst 0, 1) := by decide +kernel
theorem dX7_sums_93 : decode cX7_sums 93 = .ok (.istore_n 3, 1) := by decide +kernel
theorem dX7_sums_94 : decode cX7_sums 94 = .ok (.iload_n 3, 1) := by decide +kernel
theorem dX7_sums_95 : decode cX7_sums 95 = .ok (.aload_n 0, 1) := by decide +kernel
theorem dX7_sums_96 : decode cX7_sums 96 = .ok (.getfield 84, 3) := by decide +kernel
theorem dX7_sums_99 : decode cX7_sums 99 = .ok (.if_icmp .ge 56, 3) := by decide +kernel
theorem dX7_sums_102 : decode cX7_sums 102 = .ok (.iload_n 2, 1) := by decide +kernel
theorem dX7_sums_103 : decode cX7_sums 103 = .ok (.iload_n 1, 1) := by decide +kernel
theorem dX7_sums_104 : decode cX7_sums 104 = .ok (.iconst 1, 1) := by decide +kernel
theorem dX7_sums_105 : decode cX7_sums 105 = .ok (.if_icmp .ne 12, 3) := by decide +kernel
theorem dX7_sums_108 : decode cX7_sums 108 = .ok (.aload_n 0, 1) := by decide +kernel
theorem dX7_sums_109 : decode cX7_sums 109 = .ok (.getfield 55, 3) := by decide +kernel
theorem dX7_sums_112 : decode cX7_sums 112 = .ok (.iload_n 3, 1) := by decide +kernel
theorem dX7_sums_113 : decode cX7_sums 113 = .ok (.iaload, 1) := by decide +kernel
theorem dX7_sums_114 : decode cX7_sums 114 = .ok (.goto 33, 3) := by decide +kernel
theorem dX7_sums_117 : decode cX7_sums 117 = .ok (.iload_n 1, 1) := by decide +kernel
theorem dX7_sums_118 : decode cX7_sums 118 = .ok (.iconst 2, 1) := by decide +kernel
theorem dX7_sums_119 : decode cX7_sums 119 = .ok (.if_icmp .ne 12, 3) := by decide +kernel
theorem dX7_sums_122 : decode cX7_sums 122 = .ok (.aload_n 0, 1) := by decide +kernel
theorem dX7_sums_123 : decode cX7_sums 123 = .ok (.getfield 58, 3) := by decide +kernel
theorem dX7_sums_126 : decode cX7_sums 126 = .ok (.iload_n 3, 1) := by decide +kernel
theorem dX7_sums_127 : decode cX7_sums 127 = .ok (.iaload, 1) := by decide +kernel
theorem dX7_sums_128 : decode cX7_sums 128 = .ok (.goto 19, 3) := by decide +kernel
theorem dX7_sums_131 : decode cX7_sums 131 = .ok (.aload_n 0, 1) := by decide +kernel
theorem dX7_sums_132 : decode cX7_sums 132 = .ok (.getfield 64, 3) := by decide +kernel
theorem dX7_sums_135 : decode cX7_sums 135 = .ok (.iload_n 3, 1) := by decide +kernel
theorem dX7_sums_136 : decode cX7_sums 136 = .ok (.iaload, 1) := by decide +kernel
theorem dX7_sums_137 : decode cX7_sums 137 = .ok (.bipush (-9), 2) := by decide +kernel
theorem dX7_sums_139 : decode cX7_sums 139 = .ok (.if_icmp .ne 7, 3) := by decide +kernel
theorem dX7_sums_142 : decode cX7_sums 142 = .ok (.iconst 0, 1) := by decide +kernel
theorem dX7_sums_143 : decode cX7_sums 143 = .ok (.goto 4, 3) := by decide +kernel
theorem dX7_sums_146 : decode cX7_sums 146 = .ok (.iconst 1, 1) := by decide +kernel
theorem dX7_sums_147 : decode cX7_sums 147 = .ok (.iadd, 1) := by decide +kernel
theorem dX7_sums_148 : decode cX7_sums 148 = .ok (.istore_n 2, 1) := by decide +kernel
theorem dX7_sums_149 : decode cX7_sums 149 = .ok (.iinc 3 1, 3) := by decide +kernel
theorem dX7_sums_152 : decode cX7_sums 152 = .ok (.goto (-58), 3) := by decide +kernel
theorem dX7_sums_155 : decode cX7_sums 155 = .ok (.iload_n 2, 1) := by decide +kernel
theorem dX7_sums_156 : decode cX7_sums 156 = .ok (.ireturn, 1) := by decide +kernel
theorem dX7_of_0 : decode cX7_of 0 = .ok (.aload_n 0, 1) := by decide +kernel
theorem dX7_of_1 : decode cX7_of 1 = .ok (.iload_n 1, 1) := by decide +kernel
theorem dX7_of_2 : decode cX7_of 2 = .ok (.invokevirtual 121, 3) := by decide +kernel
theorem dX7_of_5 : decode cX7_of 5 = .ok (.ifCond .ne 9, 3) := by decide +kernel
theorem dX7_of_8 : decode cX7_of 8 = .ok (.aload_n 0, 1) := by decide +kernel
theorem dX7_of_9 : decode cX7_of 9 = .ok (.iconst (-1), 1) := by decide +kernel
theorem dX7_of_10 : decode cX7_of 10 = .ok (.invokevirtual 80, 3) := by decide +kernel
theorem dX7_of_13 : decode cX7_of 13 = .ok (.ireturn, 1) := by decide +kernel
theorem dX7_of_14 : decode cX7_of 14 = .ok (.aload_n 0, 1) := by decide +kernel
theorem dX7_of_15 : decode cX7_of 15 = .ok (.invokevirtual 186, 3) := by decide +kernel
theorem dX7_of_18 : decode cX7_of 18 = .ok (.iload_n 2, 1) := by decide +kernel
theorem dX7_of_19 : decode cX7_of 19 = .ok (.tableswitch 84 0 4 #[33, 40, 47, 60, 67], 33) := by decide +kernel
theorem dX7_of_52 : decode cX7_of 52 = .ok (.aload_n 0, 1) := by decide +kernel
theorem dX7_of_53 : decode cX7_of 53 = .ok (.getfield 55, 3) := by decide +kernel
theorem dX7_of_56 : decode cX7_of 56 = .ok (.iload_n 1, 1) := by decide +kernel
theorem dX7_of_57 : decode cX7_of 57 = .ok (.iaload, 1) := by decide +kernel
theorem dX7_of_58 : decode cX7_of 58 = .ok (.ireturn, 1) := by decide +kernel
theorem dX7_of_59 : decode cX7_of 59 = .ok (.aload_n 0, 1) := by decide +kernel
theorem dX7_of_60 : decode cX7_of 60 = .ok (.getfield 58, 3) := by decide +kernel
theorem dX7_of_63 : decode cX7_of 63 = .ok (.iload_n 1, 1) := by decide +kernel
theorem dX7_of_64 : decode cX7_of 64 = .ok (.iaload, 1) := by decide +kernel
theorem dX7_of_65 : decode cX7_of 65 = .ok (.ireturn, 1) := by decide +kernel
theorem dX7_of_66 : decode cX7_of 66 = .ok (.aload_n 0, 1) := by decide +kernel
theorem dX7_of_67 : decode cX7_of 67 = .ok (.getfield 55, 3) := by decide +kernel
theorem dX7_of_70 : decode cX7_of 70 = .ok (.iload_n 1, 1) := by decide +kernel
theorem dX7_of_71 : decode cX7_of 71 = .ok (.iaload, 1) := by decide +kernel
theorem dX7_of_72 : decode cX7_of 72 = .ok (.aload_n 0, 1) := by decide +kernel
theorem dX7_of_73 : decode cX7_of 73 = .ok (.iload_n 1, 1) := by decide +kernel
theorem dX7_of_74 : decode cX7_of 74 = .ok (.invokevirtual 138, 3) := by decide +kernel
theorem dX7_of_77 : decode cX7_of 77 = .ok (.imul, 1) := by decide +kernel
theorem dX7_of_78 : decode cX7_of 78 = .ok (.ireturn, 1) := by decide +kernel
theorem dX7_of_79 : decode cX7_of 79 = .ok (.aload_n 0, 1) := by decide +kernel
theorem dX7_of_80 : decode cX7_of 80 = .ok (.getfield 61, 3) := by decide +kernel
theorem dX7_of_83 : decode cX7_of 83 = .ok (.iload_n 1, 1) := by decide +kernel
theorem dX7_of_84 : decode cX7_of 84 = .ok (.iaload, 1) := by decide +kernel
theorem dX7_of_85 : decode cX7_of 85 = .ok (.ireturn, 1) := by decide +kernel
theorem dX7_of_86 : decode cX7_of 86 = .ok (.aload_n 0, 1) := by decide +kernel
theorem dX7_of_87 : decode cX7_of 87 = .ok (.getfield 64, 3) := by decide +kernel
theorem dX7_of_90 : decode cX7_of 90 = .ok (.iload_n 1, 1) := by decide +kernel
theorem dX7_of_91 : decode cX7_of 91 = .ok (.iaload, 1) := by decide +kernel
theorem dX7_of_92 : decode cX7_of 92 = .ok (.bipush (-9), 2) := by decide +kernel
theorem dX7_of_94 : decode cX7_of 94 = .ok (.if_icmp .ne 7, 3) := by decide +kernel
theorem dX7_of_97 : decode cX7_of 97 = .ok (.iconst 0, 1) := by decide +kernel
theorem dX7_of_98 : decode cX7_of 98 = .ok (.goto 4, 3) := by decide +kernel
theorem dX7_of_101 : decode cX7_of 101 = .ok (.iconst 1, 1) := by decide +kernel
theorem dX7_of_102 : decode cX7_of 102 = .ok (.ireturn, 1) := by decide +kernel
theorem dX7_of_103 : decode cX7_of 103 = .ok (.aload_n 0, 1) := by decide +kernel
theorem dX7_of_104 : decode cX7_of 104 = .ok (.bipush (-2), 2) := by decide +kernel
theorem dX7_of_106 : decode cX7_of 106 = .ok (.invokevirtual 80, 3) := by decide +kernel
theorem dX7_of_109 : decode cX7_of 109 = .ok (.ireturn, 1) := by decide +kernel
theorem dX7_lamp_0 : decode cX7_lamp 0 = .ok (.iload_n 1, 1) := by decide +kernel
theorem dX7_lamp_1 : decode cX7_lamp 1 = .ok (.ifCond .ge 10, 3) := by decide +kernel
theorem dX7_lamp_4 : decode cX7_lamp 4 = .ok (.aload_n 0, 1) := by decide +kernel
theorem dX7_lamp_5 : decode cX7_lamp 5 = .ok (.bipush (-4), 2) := by decide +kernel
theorem dX7_lamp_7 : decode cX7_lamp 7 = .ok (.invokevirtual 80, 3) := by decide +kernel
theorem dX7_lamp_10 : decode cX7_lamp 10 = .ok (.ireturn, 1) := by decide +kernel
theorem dX7_lamp_11 : decode cX7_lamp 11 = .ok (.iload_n 1, 1) := by decide +kernel
theorem dX7_lamp_12 : decode cX7_lamp 12 = .ok (.bipush 11, 2) := by decide +kernel
theorem dX7_lamp_14 : decode cX7_lamp 14 = .ok (.if_icmp .le 10, 3) := by decide +kernel
theorem dX7_lamp_17 : decode cX7_lamp 17 = .ok (.aload_n 0, 1) := by decide +kernel
theorem dX7_lamp_18 : decode cX7_lamp 18 = .ok (.bipush (-6), 2) := by decide +kernel
theorem dX7_lamp_20 : decode cX7_lamp 20 = .ok (.invokevirtual 80, 3) := by decide +kernel
theorem dX7_lamp_23 : decode cX7_lamp 23 = .ok (.ireturn, 1) := by decide +kernel
end
section
theorem dX7_lamp_24 : decode cX7_lamp 24 = .ok (.aload_n 0, 1) := by decide +kernel
theorem dX7_lamp_25 : decode cX7_lamp 25 = .ok (.invokevirtual 186, 3) := by decide +kernel
theorem dX7_lamp_28 : decode cX7_lamp 28 = .ok (.aload_n 0, 1) := by decide +kernel
theorem dX7_lamp_29 : decode cX7_lamp 29 = .ok (.getfield 67, 3) := by decide +kernel
theorem dX7_lamp_32 : decode cX7_lamp 32 = .ok (.iload_n 1, 1) := by decide +kernel
theorem dX7_lamp_33 : decode cX7_lamp 33 = .ok (.iaload, 1) := by decide +kernel
theorem dX7_lamp_34 : decode cX7_lamp 34 = .ok (.ireturn, 1) := by decide +kernel
theorem dX7_nextOrder_0 : decode cX7_nextOrder 0 = .ok (.aload_n 0, 1) := by decide +kernel
theorem dX7_nextOrder_1 : decode cX7_nextOrder 1 = .ok (.getfield 84, 3) := by decide +kernel
theorem dX7_nextOrder_4 : decode cX7_nextOrder 4 = .ok (.iconst 2, 1) := by decide +kernel
theorem dX7_nextOrder_5 : decode cX7_nextOrder 5 = .ok (.isub, 1) := by decide +kernel
theorem dX7_nextOrder_6 : decode cX7_nextOrder 6 = .ok (.istore_n 1, 1) := by decide +kernel
theorem dX7_nextOrder_7 : decode cX7_nextOrder 7 = .ok (.iload_n 1, 1) := by decide +kernel
theorem dX7_nextOrder_8 : decode cX7_nextOrder 8 = .ok (.ifCond .lt 26, 3) := by decide +kernel
theorem dX7_nextOrder_11 : decode cX7_nextOrder 11 = .ok (.aload_n 0, 1) := by decide +kernel
theorem dX7_nextOrder_12 : decode cX7_nextOrder 12 = .ok (.getfield 73, 3) := by decide +kernel
theorem dX7_nextOrder_15 : decode cX7_nextOrder 15 = .ok (.iload_n 1, 1) := by decide +kernel
theorem dX7_nextOrder_16 : decode cX7_nextOrder 16 = .ok (.iaload, 1) := by decide +kernel
theorem dX7_nextOrder_17 : decode cX7_nextOrder 17 = .ok (.aload_n 0, 1) := by decide +kernel
theorem dX7_nextOrder_18 : decode cX7_nextOrder 18 = .ok (.getfield 73, 3) := by decide +kernel
theorem dX7_nextOrder_21 : decode cX7_nextOrder 21 = .ok (.iload_n 1, 1) := by decide +kernel
theorem dX7_nextOrder_22 : decode cX7_nextOrder 22 = .ok (.iconst 1, 1) := by decide +kernel
theorem dX7_nextOrder_23 : decode cX7_nextOrder 23 = .ok (.iadd, 1) := by decide +kernel
theorem dX7_nextOrder_24 : decode cX7_nextOrder 24 = .ok (.iaload, 1) := by decide +kernel
theorem dX7_nextOrder_25 : decode cX7_nextOrder 25 = .ok (.if_icmp .le 9, 3) := by decide +kernel
theorem dX7_nextOrder_28 : decode cX7_nextOrder 28 = .ok (.iinc 1 (-1), 3) := by decide +kernel
theorem dX7_nextOrder_31 : decode cX7_nextOrder 31 = .ok (.goto (-24), 3) := by decide +kernel
theorem dX7_nextOrder_34 : decode cX7_nextOrder 34 = .ok (.iload_n 1, 1) := by decide +kernel
theorem dX7_nextOrder_35 : decode cX7_nextOrder 35 = .ok (.ifCond .ge 5, 3) := by decide +kernel
theorem dX7_nextOrder_38 : decode cX7_nextOrder 38 = .ok (.iconst 0, 1) := by decide +kernel
theorem dX7_nextOrder_39 : decode cX7_nextOrder 39 = .ok (.ireturn, 1) := by decide +kernel
theorem dX7_nextOrder_40 : decode cX7_nextOrder 40 = .ok (.aload_n 0, 1) := by decide +kernel
theorem dX7_nextOrder_41 : decode cX7_nextOrder 41 = .ok (.getfield 84, 3) := by decide +kernel
theorem dX7_nextOrder_44 : decode cX7_nextOrder 44 = .ok (.iconst 1, 1) := by decide +kernel
theorem dX7_nextOrder_45 : decode cX7_nextOrder 45 = .ok (.isub, 1) := by decide +kernel
theorem dX7_nextOrder_46 : decode cX7_nextOrder 46 = .ok (.istore_n 2, 1) := by decide +kernel
theorem dX7_nextOrder_47 : decode cX7_nextOrder 47 = .ok (.aload_n 0, 1) := by decide +kernel
theorem dX7_nextOrder_48 : decode cX7_nextOrder 48 = .ok (.getfield 73, 3) := by decide +kernel
theorem dX7_nextOrder_51 : decode cX7_nextOrder 51 = .ok (.iload_n 2, 1) := by decide +kernel
theorem dX7_nextOrder_52 : decode cX7_nextOrder 52 = .ok (.iaload, 1) := by decide +kernel
theorem dX7_nextOrder_53 : decode cX7_nextOrder 53 = .ok (.aload_n 0, 1) := by decide +kernel
theorem dX7_nextOrder_54 : decode cX7_nextOrder 54 = .ok (.getfield 73, 3) := by decide +kernel
theorem dX7_nextOrder_57 : decode cX7_nextOrder 57 = .ok (.iload_n 1, 1) := by decide +kernel
theorem dX7_nextOrder_58 : decode cX7_nextOrder 58 = .ok (.iaload, 1) := by decide +kernel
theorem dX7_nextOrder_59 : decode cX7_nextOrder 59 = .ok (.if_icmp .ge 9, 3) := by decide +kernel
theorem dX7_nextOrder_62 : decode cX7_nextOrder 62 = .ok (.iinc 2 (-1), 3) := by decide +kernel
theorem dX7_nextOrder_65 : decode cX7_nextOrder 65 = .ok (.goto (-18), 3) := by decide +kernel
theorem dX7_nextOrder_68 : decode cX7_nextOrder 68 = .ok (.aload_n 0, 1) := by decide +kernel
theorem dX7_nextOrder_69 : decode cX7_nextOrder 69 = .ok (.iload_n 1, 1) := by decide +kernel
theorem dX7_nextOrder_70 : decode cX7_nextOrder 70 = .ok (.iload_n 2, 1) := by decide +kernel
theorem dX7_nextOrder_71 : decode cX7_nextOrder 71 = .ok (.invokevirtual 192, 3) := by decide +kernel
theorem dX7_nextOrder_74 : decode cX7_nextOrder 74 = .ok (.iload_n 1, 1) := by decide +kernel
theorem dX7_nextOrder_75 : decode cX7_nextOrder 75 = .ok (.iconst 1, 1) := by decide +kernel
theorem dX7_nextOrder_76 : decode cX7_nextOrder 76 = .ok (.iadd, 1) := by decide +kernel
theorem dX7_nextOrder_77 : decode cX7_nextOrder 77 = .ok (.istore_n 3, 1) := by decide +kernel
theorem dX7_nextOrder_78 : decode cX7_nextOrder 78 = .ok (.aload_n 0, 1) := by decide +kernel
theorem dX7_nextOrder_79 : decode cX7_nextOrder 79 = .ok (.getfield 84, 3) := by decide +kernel
theorem dX7_nextOrder_82 : decode cX7_nextOrder 82 = .ok (.iconst 1, 1) := by decide +kernel
theorem dX7_nextOrder_83 : decode cX7_nextOrder 83 = .ok (.isub, 1) := by decide +kernel
theorem dX7_nextOrder_84 : decode cX7_nextOrder 84 = .ok (.istore 4, 2) := by decide +kernel
theorem dX7_nextOrder_86 : decode cX7_nextOrder 86 = .ok (.iload_n 3, 1) := by decide +kernel
theorem dX7_nextOrder_87 : decode cX7_nextOrder 87 = .ok (.iload 4, 2) := by decide +kernel
theorem dX7_nextOrder_89 : decode cX7_nextOrder 89 = .ok (.if_icmp .ge 19, 3) := by decide +kernel
theorem dX7_nextOrder_92 : decode cX7_nextOrder 92 = .ok (.aload_n 0, 1) := by decide +kernel
theorem dX7_nextOrder_93 : decode cX7_nextOrder 93 = .ok (.iload_n 3, 1) := by decide +kernel
theorem dX7_nextOrder_94 : decode cX7_nextOrder 94 = .ok (.iload 4, 2) := by decide +kernel
theorem dX7_nextOrder_96 : decode cX7_nextOrder 96 = .ok (.invokevirtual 192, 3) := by decide +kernel
theorem dX7_nextOrder_99 : decode cX7_nextOrder 99 = .ok (.iinc 3 1, 3) := by decide +kernel
theorem dX7_nextOrder_102 : decode cX7_nextOrder 102 = .ok (.iinc 4 (-1), 3) := by decide +kernel
theorem dX7_nextOrder_105 : decode cX7_nextOrder 105 = .ok (.goto (-19), 3) := by decide +kernel
theorem dX7_nextOrder_108 : decode cX7_nextOrder 108 = .ok (.iconst 1, 1) := by decide +kernel
theorem dX7_nextOrder_109 : decode cX7_nextOrder 109 = .ok (.ireturn, 1) := by decide +kernel
theorem dX7_swap_0 : decode cX7_swap 0 = .ok (.aload_n 0, 1) := by decide +kernel
theorem dX7_swap_1 : decode cX7_swap 1 = .ok (.getfield 73, 3) := by decide +kernel
theorem dX7_swap_4 : decode cX7_swap 4 = .ok (.iload_n 1, 1) := by decide +kernel
theorem dX7_swap_5 : decode cX7_swap 5 = .ok (.iaload, 1) := by decide +kernel
theorem dX7_swap_6 : decode cX7_swap 6 = .ok (.istore_n 3, 1) := by decide +kernel
theorem dX7_swap_7 : decode cX7_swap 7 = .ok (.aload_n 0, 1) := by decide +kernel
theorem dX7_swap_8 : decode cX7_swap 8 = .ok (.getfield 73, 3) := by decide +kernel
theorem dX7_swap_11 : decode cX7_swap 11 = .ok (.iload_n 1, 1) := by decide +kernel
theorem dX7_swap_12 : decode cX7_swap 12 = .ok (.aload_n 0, 1) := by decide +kernel
theorem dX7_swap_13 : decode cX7_swap 13 = .ok (.getfield 73, 3) := by decide +kernel
theorem dX7_swap_16 : decode cX7_swap 16 = .ok (.iload_n 2, 1) := by decide +kernel
theorem dX7_swap_17 : decode cX7_swap 17 = .ok (.iaload, 1) := by decide +kernel
theorem dX7_swap_18 : decode cX7_swap 18 = .ok (.iastore, 1) := by decide +kernel
theorem dX7_swap_19 : decode cX7_swap 19 = .ok (.aload_n 0, 1) := by decide +kernel
theorem dX7_swap_20 : decode cX7_swap 20 = .ok (.getfield 73, 3) := by decide +kernel
theorem dX7_swap_23 : decode cX7_swap 23 = .ok (.iload_n 2, 1) := by decide +kernel
theorem dX7_swap_24 : decode cX7_swap 24 = .ok (.iload_n 3, 1) := by decide +kernel
theorem dX7_swap_25 : decode cX7_swap 25 = .ok (.iastore, 1) := by decide +kernel
theorem dX7_swap_26 : decode cX7_swap 26 = .ok (.return_, 1) := by decide +kernel
theorem dX7_best_0 : decode cX7_best 0 = .ok (.iload_n 1, 1) := by decide +kernel
theorem dX7_best_1 : decode cX7_best 1 = .ok (.iconst 0, 1) := by decide +kernel
theorem dX7_best_2 : decode cX7_best 2 = .ok (.iconst 1, 1) := by decide +kernel
theorem dX7_best_3 : decode cX7_best 3 = .ok (.invokestatic 88, 3) := by decide +kernel
theorem dX7_best_6 : decode cX7_best 6 = .ok (.ifCond .ne 10, 3) := by decide +kernel
theorem dX7_best_9 : decode cX7_best 9 = .ok (.aload_n 0, 1) := by decide +kernel
theorem dX7_best_10 : decode cX7_best 10 = .ok (.bipush (-2), 2) := by decide +kernel
theorem dX7_best_12 : decode cX7_best 12 = .ok (.invokevirtual 80, 3) := by decide +kernel
theorem dX7_best_15 : decode cX7_best 15 = .ok (.ireturn, 1) := by decide +kernel
theorem dX7_best_16 : decode cX7_best 16 = .ok (.aload_n 0, 1) := by decide +kernel
theorem dX7_best_17 : decode cX7_best 17 = .ok (.getfield 84, 3) := by decide +kernel
theorem dX7_best_20 : decode cX7_best 20 = .ok (.bipush 6, 2) := by decide +kernel
theorem dX7_best_22 : decode cX7_best 22 = .ok (.if_icmp .le 10, 3) := by decide +kernel
theorem dX7_best_25 : decode cX7_best 25 = .ok (.aload_n 0, 1) := by decide +kernel
theorem dX7_best_26 : decode cX7_best 26 = .ok (.bipush (-3), 2) := by decide +kernel
theorem dX7_best_28 : decode cX7_best 28 = .ok (.invokevirtual 80, 3) := by decide +kernel
theorem dX7_best_31 : decode cX7_best 31 = .ok (.ireturn, 1) := by decide +kernel
theorem dX7_best_32 : decode cX7_best 32 = .ok (.iload_n 2, 1) := by decide +kernel
theorem dX7_best_33 : decode cX7_best 33 = .ok (.iconst (-1), 1) := by decide +kernel
theorem dX7_best_34 : decode cX7_best 34 = .ok (.if_icmp .ge 10, 3) := by decide +kernel
theorem dX7_best_37 : decode cX7_best 37 = .ok (.aload_n 0, 1) := by decide +kernel
theorem dX7_best_38 : decode cX7_best 38 = .ok (.bipush (-4), 2) := by decide +kernel
theorem dX7_best_40 : decode cX7_best 40 = .ok (.invokevirtual 80, 3) := by decide +kernel
theorem dX7_best_43 : decode cX7_best 43 = .ok (.ireturn, 1) := by decide +kernel
theorem dX7_best_44 : decode cX7_best 44 = .ok (.iload_n 2, 1) := by decide +kernel
theorem dX7_best_45 : decode cX7_best 45 = .ok (.aload_n 0, 1) := by decide +kernel
theorem dX7_best_46 : decode cX7_best 46 = .ok (.getfield 84, 3) := by decide +kernel
theorem dX7_best_49 : decode cX7_best 49 = .ok (.if_icmp .lt 9, 3) := by decide +kernel
theorem dX7_best_52 : decode cX7_best 52 = .ok (.aload_n 0, 1) := by decide +kernel
theorem dX7_best_53 : decode cX7_best 53 = .ok (.iconst (-1), 1) := by decide +kernel
theorem dX7_best_54 : decode cX7_best 54 = .ok (.invokevirtual 80, 3) := by decide +kernel
theorem dX7_best_57 : decode cX7_best 57 = .ok (.ireturn, 1) := by decide +kernel
theorem dX7_best_58 : decode cX7_best 58 = .ok (.iconst 0, 1) := by decide +kernel
theorem dX7_best_59 : decode cX7_best 59 = .ok (.istore_n 3, 1) := by decide +kernel
theorem dX7_best_60 : decode cX7_best 60 = .ok (.iload_n 3, 1) := by decide +kernel
theorem dX7_best_61 : decode cX7_best 61 = .ok (.aload_n 0, 1) := by decide +kernel
theorem dX7_best_62 : decode cX7_best 62 = .ok (.getfield 84, 3) := by decide +kernel
theorem dX7_best_65 : decode cX7_best 65 = .ok (.if_icmp .ge 16, 3) := by decide +kernel
theorem dX7_best_68 : decode cX7_best 68 = .ok (.aload_n 0, 1) := by decide +kernel
theorem dX7_best_69 : decode cX7_best 69 = .ok (.getfield 73, 3) := by decide +kernel
theorem dX7_best_72 : decode cX7_best 72 = .ok (.iload_n 3, 1) := by decide +kernel
theorem dX7_best_73 : decode cX7_best 73 = .ok (.iload_n 3, 1) := by decide +kernel
theorem dX7_best_74 : decode cX7_best 74 = .ok (.iastore, 1) := by decide +kernel
theorem dX7_best_75 : decode cX7_best 75 = .ok (.iinc 3 1, 3) := by decide +kernel
theorem dX7_best_78 : decode cX7_best 78 = .ok (.goto (-18), 3) := by decide +kernel
theorem dX7_best_81 : decode cX7_best 81 = .ok (.bipush (-9), 2) := by decide +kernel
theorem dX7_best_83 : decode cX7_best 83 = .ok (.istore_n 3, 1) := by decide +kernel
theorem dX7_best_84 : decode cX7_best 84 = .ok (.bipush (-9), 2) := by decide +kernel
theorem dX7_best_86 : decode cX7_best 86 = .ok (.istore 4, 2) := by decide +kernel
theorem dX7_best_88 : decode cX7_best 88 = .ok (.iconst 1, 1) := by decide +kernel
theorem dX7_best_89 : decode cX7_best 89 = .ok (.istore 5, 2) := by decide +kernel
theorem dX7_best_91 : decode cX7_best 91 = .ok (.iload 5, 2) := by decide +kernel
theorem dX7_best_93 : decode cX7_best 93 = .ok (.ifCond .eq 126, 3) := by decide +kernel
theorem dX7_best_96 : decode cX7_best 96 = .ok (.aload_n 0, 1) := by decide +kernel
theorem dX7_best_97 : decode cX7_best 97 = .ok (.bipush (-9), 2) := by decide +kernel
theorem dX7_best_99 : decode cX7_best 99 = .ok (.invokevirtual 172, 3) := by decide +kernel
theorem dX7_best_102 : decode cX7_best 102 = .ok (.aload_n 0, 1) := by decide +kernel
theorem dX7_best_103 : decode cX7_best 103 = .ok (.aload_n 0, 1) := by decide +kernel
theorem dX7_best_104 : decode cX7_best 104 = .ok (.getfield 84, 3) := by decide +kernel
theorem dX7_best_107 : decode cX7_best 107 = .ok (.putfield 176, 3) := by decide +kernel
theorem dX7_best_110 : decode cX7_best 110 = .ok (.iconst 0, 1) := by decide +kernel
theorem dX7_best_111 : decode cX7_best 111 = .ok (.istore 6, 2) := by decide +kernel
theorem dX7_best_113 : decode cX7_best 113 = .ok (.iload 6, 2) := by decide +kernel
theorem dX7_best_115 : decode cX7_best 115 = .ok (.aload_n 0, 1) := by decide +kernel
theorem dX7_best_116 : decode cX7_best 116 = .ok (.getfield 84, 3) := by decide +kernel
theorem dX7_best_119 : decode cX7_best 119 = .ok (.if_icmp .ge 34, 3) := by decide +kernel
theorem dX7_best_122 : decode cX7_best 122 = .ok (.aload_n 0, 1) := by decide +kernel
theorem dX7_best_123 : decode cX7_best 123 = .ok (.getfield 46, 3) := by decide +kernel
theorem dX7_best_126 : decode cX7_best 126 = .ok (.iload 6, 2) := by decide +kernel
theorem dX7_best_128 : decode cX7_best 128 = .ok (.aload_n 0, 1) := by decide +kernel
theorem dX7_best_129 : decode cX7_best 129 = .ok (.getfield 73, 3) := by decide +kernel
theorem dX7_best_132 : decode cX7_best 132 = .ok (.iload 6, 2) := by decide +kernel
theorem dX7_best_134 : decode cX7_best 134 = .ok (.iaload, 1) := by decide +kernel
theorem dX7_best_135 : decode cX7_best 135 = .ok (.iastore, 1) := by decide +kernel
theorem dX7_best_136 : decode cX7_best 136 = .ok (.aload_n 0, 1) := by decide +kernel
theorem dX7_best_137 : decode cX7_best 137 = .ok (.aload_n 0, 1) := by decide +kernel
theorem dX7_best_138 : decode cX7_best 138 = .ok (.getfield 46, 3) := by decide +kernel
theorem dX7_best_141 : decode cX7_best 141 = .ok (.iload 6, 2) := by decide +kernel
theorem dX7_best_143 : decode cX7_best 143 = .ok (.iaload, 1) := by decide +kernel
theorem dX7_best_144 : decode cX7_best 144 = .ok (.invokevirtual 179, 3) := by decide +kernel
theorem dX7_best_147 : decode cX7_best 147 = .ok (.iinc 6 1, 3) := by decide +kernel
theorem dX7_best_150 : decode cX7_best 150 = .ok (.goto (-37), 3) := by decide +kernel
theorem dX7_best_153 : decode cX7_best 153 = .ok (.aload_n 0, 1) := by decide +kernel
theorem dX7_best_154 : decode cX7_best 154 = .ok (.invokevirtual 188, 3) := by decide +kernel
theorem dX7_best_157 : decode cX7_best 157 = .ok (.istore 6, 2) := by decide +kernel
theorem dX7_best_159 : decode cX7_best 159 = .ok (.iload_n 1, 1) := by decide +kernel
theorem dX7_best_160 : decode cX7_best 160 = .ok (.ifCond .eq 18, 3) := by decide +kernel
theorem dX7_best_163 : decode cX7_best 163 = .ok (.aload_n 0, 1) := by decide +kernel
theorem dX7_best_164 : decode cX7_best 164 = .ok (.getfield 49, 3) := by decide +kernel
theorem dX7_best_167 : decode cX7_best 167 = .ok (.iconst 0, 1) := by decide +kernel
theorem dX7_best_168 : decode cX7_best 168 = .ok (.iaload, 1) := by decide +kernel
theorem dX7_best_169 : decode cX7_best 169 = .ok (.aload_n 0, 1) := by decide +kernel
theorem dX7_best_170 : decode cX7_best 170 = .ok (.getfield 25, 3) := by decide +kernel
theorem dX7_best_173 : decode cX7_best 173 = .ok (.iconst 0, 1) := by decide +kernel
theorem dX7_best_174 : decode cX7_best 174 = .ok (.iaload, 1) := by decide +kernel
theorem dX7_best_175 : decode cX7_best 175 = .ok (.if_icmp .ne 35, 3) := by decide +kernel
theorem dX7_best_178 : decode cX7_best 178 = .ok (.iload_n 3, 1) := by decide +kernel
theorem dX7_best_179 : decode cX7_best 179 = .ok (.bipush (-9), 2) := by decide +kernel
theorem dX7_best_181 : decode cX7_best 181 = .ok (.if_icmp .eq 9, 3) := by decide +kernel
theorem dX7_best_184 : decode cX7_best 184 = .ok (.iload 6, 2) := by decide +kernel
theorem dX7_best_186 : decode cX7_best 186 = .ok (.iload_n 3, 1) := by decide +kernel
theorem dX7_best_187 : decode cX7_best 187 = .ok (.if_icmp .ge 23, 3) := by decide +kernel
theorem dX7_best_190 : decode cX7_best 190 = .ok (.iload 6, 2) := by decide +kernel
theorem dX7_best_192 : decode cX7_best 192 = .ok (.istore_n 3, 1) := by decide +kernel
theorem dX7_best_193 : decode cX7_best 193 = .ok (.iload_n 2, 1) := by decide +kernel
theorem dX7_best_194 : decode cX7_best 194 = .ok (.ifCond .ge 8, 3) := by decide +kernel
theorem dX7_best_197 : decode cX7_best 197 = .ok (.iload 6, 2) := by decide +kernel
theorem dX7_best_199 : decode cX7_best 199 = .ok (.goto 9, 3) := by decide +kernel
theorem dX7_best_202 : decode cX7_best 202 = .ok (.aload_n 0, 1) := by decide +kernel
theorem dX7_best_203 : decode cX7_best 203 = .ok (.getfield 73, 3) := by decide +kernel
theorem dX7_best_206 : decode cX7_best 206 = .ok (.iload_n 2, 1) := by decide +kernel
theorem dX7_best_207 : decode cX7_best 207 = .ok (.iaload, 1) := by decide +kernel
theorem dX7_best_208 : decode cX7_best 208 = .ok (.istore 4, 2) := by decide +kernel
theorem dX7_best_210 : decode cX7_best 210 = .ok (.aload_n 0, 1) := by decide +kernel
theorem dX7_best_211 : decode cX7_best 211 = .ok (.invokevirtual 195, 3) := by decide +kernel
theorem dX7_best_214 : decode cX7_best 214 = .ok (.istore 5, 2) := by decide +kernel
theorem dX7_best_216 : decode cX7_best 216 = .ok (.goto (-125), 3) := by decide +kernel
theorem dX7_best_219 : decode cX7_best 219 = .ok (.iload 4, 2) := by decide +kernel
theorem dX7_best_221 : decode cX7_best 221 = .ok (.ireturn, 1) := by decide +kernel
theorem dX7_bestPump_0 : decode cX7_bestPump 0 = .ok (.aload_n 0, 1) := by decide +kernel
theorem dX7_bestPump_1 : decode cX7_bestPump 1 = .ok (.getfield 25, 3) := by decide +kernel
theorem dX7_bestPump_4 : decode cX7_bestPump 4 = .ok (.iconst 0, 1) := by decide +kernel
theorem dX7_bestPump_5 : decode cX7_bestPump 5 = .ok (.iaload, 1) := by decide +kernel
theorem dX7_bestPump_6 : decode cX7_bestPump 6 = .ok (.istore_n 1, 1) := by decide +kernel
theorem dX7_bestPump_7 : decode cX7_bestPump 7 = .ok (.iconst 0, 1) := by decide +kernel
theorem dX7_bestPump_8 : decode cX7_bestPump 8 = .ok (.istore_n 2, 1) := by decide +kernel
theorem dX7_bestPump_9 : decode cX7_bestPump 9 = .ok (.iconst (-1), 1) := by decide +kernel
theorem dX7_bestPump_10 : decode cX7_bestPump 10 = .ok (.istore_n 3, 1) := by decide +kernel
theorem dX7_bestPump_11 : decode cX7_bestPump 11 = .ok (.iconst 0, 1) := by decide +kernel
theorem dX7_bestPump_12 : decode cX7_bestPump 12 = .ok (.istore 4, 2) := by decide +kernel
theorem dX7_bestPump_14 : decode cX7_bestPump 14 = .ok (.iload 4, 2) := by decide +kernel
theorem dX7_bestPump_16 : decode cX7_bestPump 16 = .ok (.bipush 40, 2) := by decide +kernel
theorem dX7_bestPump_18 : decode cX7_bestPump 18 = .ok (.if_icmp .ge 42, 3) := by decide +kernel
theorem dX7_bestPump_21 : decode cX7_bestPump 21 = .ok (.aload_n 0, 1) := by decide +kernel
theorem dX7_bestPump_22 : decode cX7_bestPump 22 = .ok (.getfield 25, 3) := by decide +kernel
theorem dX7_bestPump_25 : decode cX7_bestPump 25 = .ok (.iconst 0, 1) := by decide +kernel
theorem dX7_bestPump_26 : decode cX7_bestPump 26 = .ok (.iload 4, 2) := by decide +kernel
theorem dX7_bestPump_28 : decode cX7_bestPump 28 = .ok (.iastore, 1) := by decide +kernel
theorem dX7_bestPump_29 : decode cX7_bestPump 29 = .ok (.aload_n 0, 1) := by decide +kernel
theorem dX7_bestPump_30 : decode cX7_bestPump 30 = .ok (.invokevirtual 199, 3) := by decide +kernel
theorem dX7_bestPump_33 : decode cX7_bestPump 33 = .ok (.istore 5, 2) := by decide +kernel
theorem dX7_bestPump_35 : decode cX7_bestPump 35 = .ok (.iload_n 3, 1) := by decide +kernel
theorem dX7_bestPump_36 : decode cX7_bestPump 36 = .ok (.ifCond .lt 12, 3) := by decide +kernel
theorem dX7_bestPump_39 : decode cX7_bestPump 39 = .ok (.iload 5, 2) := by decide +kernel
theorem dX7_bestPump_41 : decode cX7_bestPump 41 = .ok (.iload_n 3, 1) := by decide +kernel
theorem dX7_bestPump_42 : decode cX7_bestPump 42 = .ok (.if_icmp .lt 6, 3) := by decide +kernel
theorem dX7_bestPump_45 : decode cX7_bestPump 45 = .ok (.goto 9, 3) := by decide +kernel
theorem dX7_bestPump_48 : decode cX7_bestPump 48 = .ok (.iload 5, 2) := by decide +kernel
theorem dX7_bestPump_50 : decode cX7_bestPump 50 = .ok (.istore_n 3, 1) := by decide +kernel
theorem dX7_bestPump_51 : decode cX7_bestPump 51 = .ok (.iload 4, 2) := by decide +kernel
theorem dX7_bestPump_53 : decode cX7_bestPump 53 = .ok (.istore_n 2, 1) := by decide +kernel
theorem dX7_bestPump_54 : decode cX7_bestPump 54 = .ok (.iinc 4 1, 3) := by decide +kernel
theorem dX7_bestPump_57 : decode cX7_bestPump 57 = .ok (.goto (-43), 3) := by decide +kernel
theorem dX7_bestPump_60 : decode cX7_bestPump 60 = .ok (.aload_n 0, 1) := by decide +kernel
theorem dX7_bestPump_61 : decode cX7_bestPump 61 = .ok (.getfield 25, 3) := by decide +kernel
theorem dX7_bestPump_64 : decode cX7_bestPump 64 = .ok (.iconst 0, 1) := by decide +kernel
theorem dX7_bestPump_65 : decode cX7_bestPump 65 = .ok (.iload_n 1, 1) := by decide +kernel
theorem dX7_bestPump_66 : decode cX7_bestPump 66 = .ok (.iastore, 1) := by decide +kernel
theorem dX7_bestPump_67 : decode cX7_bestPump 67 = .ok (.iload_n 2, 1) := by decide +kernel
theorem dX7_bestPump_68 : decode cX7_bestPump 68 = .ok (.ireturn, 1) := by decide +kernel
theorem dX7_bestHour_0 : decode cX7_bestHour 0 = .ok (.aload_n 0, 1) := by decide +kernel
theorem dX7_bestHour_1 : decode cX7_bestHour 1 = .ok (.iload_n 1, 1) := by decide +kernel
theorem dX7_bestHour_2 : decode cX7_bestHour 2 = .ok (.invokevirtual 121, 3) := by decide +kernel
theorem dX7_bestHour_5 : decode cX7_bestHour 5 = .ok (.ifCond .ne 9, 3) := by decide +kernel
theorem dX7_bestHour_8 : decode cX7_bestHour 8 = .ok (.aload_n 0, 1) := by decide +kernel
theorem dX7_bestHour_9 : decode cX7_bestHour 9 = .ok (.iconst (-1), 1) := by decide +kernel
theorem dX7_bestHour_10 : decode cX7_bestHour 10 = .ok (.invokevirtual 80, 3) := by decide +kernel
theorem dX7_bestHour_13 : decode cX7_bestHour 13 = .ok (.ireturn, 1) := by decide +kernel
theorem dX7_bestHour_14 : decode cX7_bestHour 14 = .ok (.aload_n 0, 1) := by decide +kernel
theorem dX7_bestHour_15 : decode cX7_bestHour 15 = .ok (.getfield 22, 3) := by decide +kernel
theorem dX7_bestHour_18 : decode cX7_bestHour 18 = .ok (.iload_n 1, 1) := by decide +kernel
theorem dX7_bestHour_19 : decode cX7_bestHour 19 = .ok (.iaload, 1) := by decide +kernel
theorem dX7_bestHour_20 : decode cX7_bestHour 20 = .ok (.istore_n 2, 1) := by decide +kernel
theorem dX7_bestHour_21 : decode cX7_bestHour 21 = .ok (.iconst 0, 1) := by decide +kernel
theorem dX7_bestHour_22 : decode cX7_bestHour 22 = .ok (.istore_n 3, 1) := by decide +kernel
theorem dX7_bestHour_23 : decode cX7_bestHour 23 = .ok (.iconst (-1), 1) := by decide +kernel
theorem dX7_bestHour_24 : decode cX7_bestHour 24 = .ok (.istore 4, 2) := by decide +kernel
theorem dX7_bestHour_26 : decode cX7_bestHour 26 = .ok (.iconst 0, 1) := by decide +kernel
theorem dX7_bestHour_27 : decode cX7_bestHour 27 = .ok (.istore 5, 2) := by decide +kernel
theorem dX7_bestHour_29 : decode cX7_bestHour 29 = .ok (.iload 5, 2) := by decide +kernel
theorem dX7_bestHour_31 : decode cX7_bestHour 31 = .ok (.bipush 12, 2) := by decide +kernel
theorem dX7_bestHour_33 : decode cX7_bestHour 33 = .ok (.if_icmp .ge 45, 3) := by decide +kernel
theorem dX7_bestHour_36 : decode cX7_bestHour 36 = .ok (.aload_n 0, 1) := by decide +kernel
theorem dX7_bestHour_37 : decode cX7_bestHour 37 = .ok (.getfield 22, 3) := by decide +kernel
theorem dX7_bestHour_40 : decode cX7_bestHour 40 = .ok (.iload_n 1, 1) := by decide +kernel
theorem dX7_bestHour_41 : decode cX7_bestHour 41 = .ok (.iload 5, 2) := by decide +kernel
theorem dX7_bestHour_43 : decode cX7_bestHour 43 = .ok (.iastore, 1) := by decide +kernel
theorem dX7_bestHour_44 : decode cX7_bestHour 44 = .ok (.aload_n 0, 1) := by decide +kernel
theorem dX7_bestHour_45 : decode cX7_bestHour 45 = .ok (.invokevirtual 199, 3) := by decide +kernel
theorem dX7_bestHour_48 : decode cX7_bestHour 48 = .ok (.istore 6, 2) := by decide +kernel
theorem dX7_bestHour_50 : decode cX7_bestHour 50 = .ok (.iload 4, 2) := by decide +kernel
theorem dX7_bestHour_52 : decode cX7_bestHour 52 = .ok (.ifCond .lt 13, 3) := by decide +kernel
theorem dX7_bestHour_55 : decode cX7_bestHour 55 = .ok (.iload 6, 2) := by decide +kernel
theorem dX7_bestHour_57 : decode cX7_bestHour 57 = .ok (.iload 4, 2) := by decide +kernel
theorem dX7_bestHour_59 : decode cX7_bestHour 59 = .ok (.if_icmp .lt 6, 3) := by decide +kernel
theorem dX7_bestHour_62 : decode cX7_bestHour 62 = .ok (.goto 10, 3) := by decide +kernel
theorem dX7_bestHour_65 : decode cX7_bestHour 65 = .ok (.iload 6, 2) := by decide +kernel
theorem dX7_bestHour_67 : decode cX7_bestHour 67 = .ok (.istore 4, 2) := by decide +kernel
theorem dX7_bestHour_69 : decode cX7_bestHour 69 = .ok (.iload 5, 2) := by decide +kernel
theorem dX7_bestHour_71 : decode cX7_bestHour 71 = .ok (.istore_n 3, 1) := by decide +kernel
theorem dX7_bestHour_72 : decode cX7_bestHour 72 = .ok (.iinc 5 1, 3) := by decide +kernel
theorem dX7_bestHour_75 : decode cX7_bestHour 75 = .ok (.goto (-46), 3) := by decide +kernel
theorem dX7_bestHour_78 : decode cX7_bestHour 78 = .ok (.aload_n 0, 1) := by decide +kernel
theorem dX7_bestHour_79 : decode cX7_bestHour 79 = .ok (.getfield 22, 3) := by decide +kernel
theorem dX7_bestHour_82 : decode cX7_bestHour 82 = .ok (.iload_n 1, 1) := by decide +kernel
theorem dX7_bestHour_83 : decode cX7_bestHour 83 = .ok (.iload_n 2, 1) := by decide +kernel
theorem dX7_bestHour_84 : decode cX7_bestHour 84 = .ok (.iastore, 1) := by decide +kernel
theorem dX7_bestHour_85 : decode cX7_bestHour 85 = .ok (.iload_n 3, 1) := by decide +kernel
theorem dX7_bestHour_86 : decode cX7_bestHour 86 = .ok (.ireturn, 1) := by decide +kernel
theorem dX7_without_0 : decode cX7_without 0 = .ok (.aload_n 0, 1) := by decide +kernel
theorem dX7_without_1 : decode cX7_without 1 = .ok (.iload_n 1, 1) := by decide +kernel
theorem dX7_without_2 : decode cX7_without 2 = .ok (.invokevirtual 121, 3) := by decide +kernel
theorem dX7_without_5 : decode cX7_without 5 = .ok (.ifCond .ne 9, 3) := by decide +kernel
theorem dX7_without_8 : decode cX7_without 8 = .ok (.aload_n 0, 1) := by decide +kernel
theorem dX7_without_9 : decode cX7_without 9 = .ok (.iconst (-1), 1) := by decide +kernel
theorem dX7_without_10 : decode cX7_without 10 = .ok (.invokevirtual 202, 3) := by decide +kernel
theorem dX7_without_13 : decode cX7_without 13 = .ok (.ireturn, 1) := by decide +kernel
theorem dX7_without_14 : decode cX7_without 14 = .ok (.aload_n 0, 1) := by decide +kernel
theorem dX7_without_15 : decode cX7_without 15 = .ok (.invokevirtual 199, 3) := by decide +kernel
theorem dX7_without_18 : decode cX7_without 18 = .ok (.istore_n 2, 1) := by decide +kernel
theorem dX7_without_19 : decode cX7_without 19 = .ok (.aload_n 0, 1) := by decide +kernel
theorem dX7_without_20 : decode cX7_without 20 = .ok (.iload_n 1, 1) := by decide +kernel
theorem dX7_without_21 : decode cX7_without 21 = .ok (.bipush (-9), 2) := by decide +kernel
theorem dX7_without_23 : decode cX7_without 23 = .ok (.invokevirtual 182, 3) := by decide +kernel
theorem dX7_without_26 : decode cX7_without 26 = .ok (.iload_n 2, 1) := by decide +kernel
theorem dX7_without_27 : decode cX7_without 27 = .ok (.aload_n 0, 1) := by decide +kernel
theorem dX7_without_28 : decode cX7_without 28 = .ok (.invokevirtual 188, 3) := by decide +kernel
theorem dX7_without_31 : decode cX7_without 31 = .ok (.isub, 1) := by decide +kernel
theorem dX7_without_32 : decode cX7_without 32 = .ok (.ireturn, 1) := by decide +kernel
theorem dX7_secondAt_0 : decode cX7_secondAt 0 = .ok (.aload_n 0, 1) := by decide +kernel
theorem dX7_secondAt_1 : decode cX7_secondAt 1 = .ok (.invokevirtual 199, 3) := by decide +kernel
theorem dX7_secondAt_4 : decode cX7_secondAt 4 = .ok (.istore_n 2, 1) := by decide +kernel
theorem dX7_secondAt_5 : decode cX7_secondAt 5 = .ok (.aload_n 0, 1) := by decide +kernel
theorem dX7_secondAt_6 : decode cX7_secondAt 6 = .ok (.bipush (-9), 2) := by decide +kernel
theorem dX7_secondAt_8 : decode cX7_secondAt 8 = .ok (.iload_n 1, 1) := by decide +kernel
theorem dX7_secondAt_9 : decode cX7_secondAt 9 = .ok (.invokevirtual 182, 3) := by decide +kernel
theorem dX7_secondAt_12 : decode cX7_secondAt 12 = .ok (.iload_n 2, 1) := by decide +kernel
theorem dX7_secondAt_13 : decode cX7_secondAt 13 = .ok (.aload_n 0, 1) := by decide +kernel
theorem dX7_secondAt_14 : decode cX7_secondAt 14 = .ok (.invokevirtual 188, 3) := by decide +kernel
theorem dX7_secondAt_17 : decode cX7_secondAt 17 = .ok (.isub, 1) := by decide +kernel
theorem dX7_secondAt_18 : decode cX7_secondAt 18 = .ok (.ireturn, 1) := by decide +kernel
theorem dX7_second_0 : decode cX7_second 0 = .ok (.iload_n 1, 1) := by decide +kernel
theorem dX7_second_1 : decode cX7_second 1 = .ok (.invokestatic 115, 3) := by decide +kernel
theorem dX7_second_4 : decode cX7_second 4 = .ok (.ifCond .eq 11, 3) := by decide +kernel
theorem dX7_second_7 : decode cX7_second 7 = .ok (.aload_n 0, 1) := by decide +kernel
theorem dX7_second_8 : decode cX7_second 8 = .ok (.iload_n 1, 1) := by decide +kernel
theorem dX7_second_9 : decode cX7_second 9 = .ok (.invokevirtual 205, 3) := by decide +kernel
theorem dX7_second_12 : decode cX7_second 12 = .ok (.goto 8, 3) := by decide +kernel
theorem dX7_second_15 : decode cX7_second 15 = .ok (.aload_n 0, 1) := by decide +kernel
theorem dX7_second_16 : decode cX7_second 16 = .ok (.iconst (-1), 1) := by decide +kernel
theorem dX7_second_17 : decode cX7_second 17 = .ok (.invokevirtual 202, 3) := by decide +kernel
theorem dX7_second_20 : decode cX7_second 20 = .ok (.ireturn, 1) := by decide +kernel
theorem dX7_bestSecond_0 : decode cX7_bestSecond 0 = .ok (.iconst 0, 1) := by decide +kernel
theorem dX7_bestSecond_1 : decode cX7_bestSecond 1 = .ok (.istore_n 1, 1) := by decide +kernel
theorem dX7_bestSecond_2 : decode cX7_bestSecond 2 = .ok (.iconst 1, 1) := by decide +kernel
theorem dX7_bestSecond_3 : decode cX7_bestSecond 3 = .ok (.istore_n 2, 1) := by decide +kernel
theorem dX7_bestSecond_4 : decode cX7_bestSecond 4 = .ok (.iload_n 2, 1) := by decide +kernel
theorem dX7_bestSecond_5 : decode cX7_bestSecond 5 = .ok (.bipush 40, 2) := by decide +kernel
theorem dX7_bestSecond_7 : decode cX7_bestSecond 7 = .ok (.if_icmp .ge 24, 3) := by decide +kernel
theorem dX7_bestSecond_10 : decode cX7_bestSecond 10 = .ok (.aload_n 0, 1) := by decide +kernel
theorem dX7_bestSecond_11 : decode cX7_bestSecond 11 = .ok (.iload_n 2, 1) := by decide +kernel
theorem dX7_bestSecond_12 : decode cX7_bestSecond 12 = .ok (.invokevirtual 205, 3) := by decide +kernel
theorem dX7_bestSecond_15 : decode cX7_bestSecond 15 = .ok (.aload_n 0, 1) := by decide +kernel
theorem dX7_bestSecond_16 : decode cX7_bestSecond 16 = .ok (.iload_n 1, 1) := by decide +kernel
theorem dX7_bestSecond_17 : decode cX7_bestSecond 17 = .ok (.invokevirtual 205, 3) := by decide +kernel
theorem dX7_bestSecond_20 : decode cX7_bestSecond 20 = .ok (.if_icmp .le 5, 3) := by decide +kernel
theorem dX7_bestSecond_23 : decode cX7_bestSecond 23 = .ok (.iload_n 2, 1) := by decide +kernel
theorem dX7_bestSecond_24 : decode cX7_bestSecond 24 = .ok (.istore_n 1, 1) := by decide +kernel
theorem dX7_bestSecond_25 : decode cX7_bestSecond 25 = .ok (.iinc 2 1, 3) := by decide +kernel
theorem dX7_bestSecond_28 : decode cX7_bestSecond 28 = .ok (.goto (-24), 3) := by decide +kernel
theorem dX7_bestSecond_31 : decode cX7_bestSecond 31 = .ok (.iload_n 1, 1) := by decide +kernel
theorem dX7_bestSecond_32 : decode cX7_bestSecond 32 = .ok (.ireturn, 1) := by decide +kernel
theorem dX7_owe_0 : decode cX7_owe 0 = .ok (.aload_n 0, 1) := by decide +kernel
theorem dX7_owe_1 : decode cX7_owe 1 = .ok (.bipush (-9), 2) := by decide +kernel
theorem dX7_owe_3 : decode cX7_owe 3 = .ok (.invokevirtual 172, 3) := by decide +kernel
theorem dX7_owe_6 : decode cX7_owe 6 = .ok (.iconst 0, 1) := by decide +kernel
theorem dX7_owe_7 : decode cX7_owe 7 = .ok (.istore_n 1, 1) := by decide +kernel
theorem dX7_owe_8 : decode cX7_owe 8 = .ok (.iload_n 1, 1) := by decide +kernel
theorem dX7_owe_9 : decode cX7_owe 9 = .ok (.aload_n 0, 1) := by decide +kernel
theorem dX7_owe_10 : decode cX7_owe 10 = .ok (.getfield 84, 3) := by decide +kernel
theorem dX7_owe_13 : decode cX7_owe 13 = .ok (.if_icmp .ge 16, 3) := by decide +kernel
theorem dX7_owe_16 : decode cX7_owe 16 = .ok (.aload_n 0, 1) := by decide +kernel
theorem dX7_owe_17 : decode cX7_owe 17 = .ok (.getfield 70, 3) := by decide +kernel
theorem dX7_owe_20 : decode cX7_owe 20 = .ok (.iload_n 1, 1) := by decide +kernel
theorem dX7_owe_21 : decode cX7_owe 21 = .ok (.iconst 0, 1) := by decide +kernel
theorem dX7_owe_22 : decode cX7_owe 22 = .ok (.iastore, 1) := by decide +kernel
theorem dX7_owe_23 : decode cX7_owe 23 = .ok (.iinc 1 1, 3) := by decide +kernel
theorem dX7_owe_26 : decode cX7_owe 26 = .ok (.goto (-18), 3) := by decide +kernel
theorem dX7_owe_29 : decode cX7_owe 29 = .ok (.bipush (-9), 2) := by decide +kernel
theorem dX7_owe_31 : decode cX7_owe 31 = .ok (.istore_n 1, 1) := by decide +kernel
theorem dX7_owe_32 : decode cX7_owe 32 = .ok (.iconst 0, 1) := by decide +kernel
theorem dX7_owe_33 : decode cX7_owe 33 = .ok (.istore_n 2, 1) := by decide +kernel
theorem dX7_owe_34 : decode cX7_owe 34 = .ok (.iload_n 2, 1) := by decide +kernel
theorem dX7_owe_35 : decode cX7_owe 35 = .ok (.bipush 12, 2) := by decide +kernel
theorem dX7_owe_37 : decode cX7_owe 37 = .ok (.if_icmp .ge 123, 3) := by decide +kernel
theorem dX7_owe_40 : decode cX7_owe 40 = .ok (.iconst 0, 1) := by decide +kernel
theorem dX7_owe_41 : decode cX7_owe 41 = .ok (.istore_n 3, 1) := by decide +kernel
theorem dX7_owe_42 : decode cX7_owe 42 = .ok (.iload_n 3, 1) := by decide +kernel
theorem dX7_owe_43 : decode cX7_owe 43 = .ok (.aload_n 0, 1) := by decide +kernel
theorem dX7_owe_44 : decode cX7_owe 44 = .ok (.getfield 84, 3) := by decide +kernel
theorem dX7_owe_47 : decode cX7_owe 47 = .ok (.if_icmp .ge 107, 3) := by decide +kernel
theorem dX7_owe_50 : decode cX7_owe 50 = .ok (.aload_n 0, 1) := by decide +kernel
theorem dX7_owe_51 : decode cX7_owe 51 = .ok (.getfield 22, 3) := by decide +kernel
theorem dX7_owe_54 : decode cX7_owe 54 = .ok (.iload_n 3, 1) := by decide +kernel
theorem dX7_owe_55 : decode cX7_owe 55 = .ok (.iaload, 1) := by decide +kernel
theorem dX7_owe_56 : decode cX7_owe 56 = .ok (.iload_n 2, 1) := by decide +kernel
theorem dX7_owe_57 : decode cX7_owe 57 = .ok (.if_icmp .eq 6, 3) := by decide +kernel
theorem dX7_owe_60 : decode cX7_owe 60 = .ok (.goto 88, 3) := by decide +kernel
theorem dX7_owe_63 : decode cX7_owe 63 = .ok (.iload_n 1, 1) := by decide +kernel
theorem dX7_owe_64 : decode cX7_owe 64 = .ok (.bipush (-9), 2) := by decide +kernel
theorem dX7_owe_66 : decode cX7_owe 66 = .ok (.if_icmp .eq 75, 3) := by decide +kernel
theorem dX7_owe_69 : decode cX7_owe 69 = .ok (.aload_n 0, 1) := by decide +kernel
theorem dX7_owe_70 : decode cX7_owe 70 = .ok (.getfield 64, 3) := by decide +kernel
theorem dX7_owe_73 : decode cX7_owe 73 = .ok (.iload_n 1, 1) := by decide +kernel
theorem dX7_owe_74 : decode cX7_owe 74 = .ok (.iaload, 1) := by decide +kernel
theorem dX7_owe_75 : decode cX7_owe 75 = .ok (.bipush (-9), 2) := by decide +kernel
theorem dX7_owe_77 : decode cX7_owe 77 = .ok (.if_icmp .eq 64, 3) := by decide +kernel
theorem dX7_owe_80 : decode cX7_owe 80 = .ok (.iconst 0, 1) := by decide +kernel
theorem dX7_owe_81 : decode cX7_owe 81 = .ok (.aload_n 0, 1) := by decide +kernel
theorem dX7_owe_82 : decode cX7_owe 82 = .ok (.getfield 49, 3) := by decide +kernel
theorem dX7_owe_85 : decode cX7_owe 85 = .ok (.iconst 0, 1) := by decide +kernel
theorem dX7_owe_86 : decode cX7_owe 86 = .ok (.iaload, 1) := by decide +kernel
theorem dX7_owe_87 : decode cX7_owe 87 = .ok (.aload_n 0, 1) := by decide +kernel
theorem dX7_owe_88 : decode cX7_owe 88 = .ok (.getfield 16, 3) := by decide +kernel
theorem dX7_owe_91 : decode cX7_owe 91 = .ok (.iload_n 3, 1) := by decide +kernel
theorem dX7_owe_92 : decode cX7_owe 92 = .ok (.iaload, 1) := by decide +kernel
theorem dX7_owe_93 : decode cX7_owe 93 = .ok (.isub, 1) := by decide +kernel
theorem dX7_owe_94 : decode cX7_owe 94 = .ok (.invokestatic 144, 3) := by decide +kernel
theorem dX7_owe_97 : decode cX7_owe 97 = .ok (.aload_n 0, 1) := by decide +kernel
theorem dX7_owe_98 : decode cX7_owe 98 = .ok (.getfield 25, 3) := by decide +kernel
theorem dX7_owe_101 : decode cX7_owe 101 = .ok (.iconst 0, 1) := by decide +kernel
theorem dX7_owe_102 : decode cX7_owe 102 = .ok (.iaload, 1) := by decide +kernel
theorem dX7_owe_103 : decode cX7_owe 103 = .ok (.aload_n 0, 1) := by decide +kernel
theorem dX7_owe_104 : decode cX7_owe 104 = .ok (.getfield 16, 3) := by decide +kernel
theorem dX7_owe_107 : decode cX7_owe 107 = .ok (.iload_n 3, 1) := by decide +kernel
theorem dX7_owe_108 : decode cX7_owe 108 = .ok (.iaload, 1) := by decide +kernel
theorem dX7_owe_109 : decode cX7_owe 109 = .ok (.isub, 1) := by decide +kernel
theorem dX7_owe_110 : decode cX7_owe 110 = .ok (.invokestatic 144, 3) := by decide +kernel
theorem dX7_owe_113 : decode cX7_owe 113 = .ok (.isub, 1) := by decide +kernel
theorem dX7_owe_114 : decode cX7_owe 114 = .ok (.invokestatic 208, 3) := by decide +kernel
theorem dX7_owe_117 : decode cX7_owe 117 = .ok (.istore 4, 2) := by decide +kernel
theorem dX7_owe_119 : decode cX7_owe 119 = .ok (.aload_n 0, 1) := by decide +kernel
theorem dX7_owe_120 : decode cX7_owe 120 = .ok (.getfield 70, 3) := by decide +kernel
theorem dX7_owe_123 : decode cX7_owe 123 = .ok (.iload_n 3, 1) := by decide +kernel
theorem dX7_owe_124 : decode cX7_owe 124 = .ok (.dup2, 1) := by decide +kernel
theorem dX7_owe_125 : decode cX7_owe 125 = .ok (.iaload, 1) := by decide +kernel
theorem dX7_owe_126 : decode cX7_owe 126 = .ok (.iload 4, 2) := by decide +kernel
theorem dX7_owe_128 : decode cX7_owe 128 = .ok (.iadd, 1) := by decide +kernel
theorem dX7_owe_129 : decode cX7_owe 129 = .ok (.iastore, 1) := by decide +kernel
theorem dX7_owe_130 : decode cX7_owe 130 = .ok (.aload_n 0, 1) := by decide +kernel
theorem dX7_owe_131 : decode cX7_owe 131 = .ok (.getfield 70, 3) := by decide +kernel
theorem dX7_owe_134 : decode cX7_owe 134 = .ok (.iload_n 1, 1) := by decide +kernel
theorem dX7_owe_135 : decode cX7_owe 135 = .ok (.dup2, 1) := by decide +kernel
theorem dX7_owe_136 : decode cX7_owe 136 = .ok (.iaload, 1) := by decide +kernel
theorem dX7_owe_137 : decode cX7_owe 137 = .ok (.iload 4, 2) := by decide +kernel
theorem dX7_owe_139 : decode cX7_owe 139 = .ok (.isub, 1) := by decide +kernel
theorem dX7_owe_140 : decode cX7_owe 140 = .ok (.iastore, 1) := by decide +kernel
theorem dX7_owe_141 : decode cX7_owe 141 = .ok (.aload_n 0, 1) := by decide +kernel
theorem dX7_owe_142 : decode cX7_owe 142 = .ok (.iload_n 3, 1) := by decide +kernel
theorem dX7_owe_143 : decode cX7_owe 143 = .ok (.invokevirtual 179, 3) := by decide +kernel
theorem dX7_owe_146 : decode cX7_owe 146 = .ok (.iload_n 3, 1) := by decide +kernel
theorem dX7_owe_147 : decode cX7_owe 147 = .ok (.istore_n 1, 1) := by decide +kernel
theorem dX7_owe_148 : decode cX7_owe 148 = .ok (.iinc 3 1, 3) := by decide +kernel
theorem dX7_owe_151 : decode cX7_owe 151 = .ok (.goto (-109), 3) := by decide +kernel
theorem dX7_owe_154 : decode cX7_owe 154 = .ok (.iinc 2 1, 3) := by decide +kernel
theorem dX7_owe_157 : decode cX7_owe 157 = .ok (.goto (-123), 3) := by decide +kernel
theorem dX7_owe_160 : decode cX7_owe 160 = .ok (.return_, 1) := by decide +kernel
theorem dX7_net_0 : decode cX7_net 0 = .ok (.aload_n 0, 1) := by decide +kernel
theorem dX7_net_1 : decode cX7_net 1 = .ok (.iload_n 1, 1) := by decide +kernel
theorem dX7_net_2 : decode cX7_net 2 = .ok (.invokevirtual 121, 3) := by decide +kernel
theorem dX7_net_5 : decode cX7_net 5 = .ok (.ifCond .ne 9, 3) := by decide +kernel
theorem dX7_net_8 : decode cX7_net 8 = .ok (.aload_n 0, 1) := by decide +kernel
theorem dX7_net_9 : decode cX7_net 9 = .ok (.iconst (-1), 1) := by decide +kernel
theorem dX7_net_10 : decode cX7_net 10 = .ok (.invokevirtual 202, 3) := by decide +kernel
theorem dX7_net_13 : decode cX7_net 13 = .ok (.ireturn, 1) := by decide +kernel
theorem dX7_net_14 : decode cX7_net 14 = .ok (.aload_n 0, 1) := by decide +kernel
theorem dX7_net_15 : decode cX7_net 15 = .ok (.invokevirtual 211, 3) := by decide +kernel
theorem dX7_net_18 : decode cX7_net 18 = .ok (.aload_n 0, 1) := by decide +kernel
theorem dX7_net_19 : decode cX7_net 19 = .ok (.getfield 70, 3) := by decide +kernel
theorem dX7_net_22 : decode cX7_net 22 = .ok (.iload_n 1, 1) := by decide +kernel
theorem dX7_net_23 : decode cX7_net 23 = .ok (.iaload, 1) := by decide +kernel
theorem dX7_net_24 : decode cX7_net 24 = .ok (.ireturn, 1) := by decide +kernel
theorem dX7_payments_0 : decode cX7_payments 0 = .ok (.aload_n 0, 1) := by decide +kernel
theorem dX7_payments_1 : decode cX7_payments 1 = .ok (.invokevirtual 211, 3) := by decide +kernel
theorem dX7_payments_4 : decode cX7_payments 4 = .ok (.iconst 0, 1) := by decide +kernel
theorem dX7_payments_5 : decode cX7_payments 5 = .ok (.istore_n 1, 1) := by decide +kernel
theorem dX7_payments_6 : decode cX7_payments 6 = .ok (.iconst 0, 1) := by decide +kernel
theorem dX7_payments_7 : decode cX7_payments 7 = .ok (.istore_n 2, 1) := by decide +kernel
theorem dX7_payments_8 : decode cX7_payments 8 = .ok (.iload_n 2, 1) := by decide +kernel
theorem dX7_payments_9 : decode cX7_payments 9 = .ok (.aload_n 0, 1) := by decide +kernel
theorem dX7_payments_10 : decode cX7_payments 10 = .ok (.getfield 84, 3) := by decide +kernel
theorem dX7_payments_13 : decode cX7_payments 13 = .ok (.if_icmp .ge 21, 3) := by decide +kernel
theorem dX7_payments_16 : decode cX7_payments 16 = .ok (.aload_n 0, 1) := by decide +kernel
theorem dX7_payments_17 : decode cX7_payments 17 = .ok (.getfield 70, 3) := by decide +kernel
theorem dX7_payments_20 : decode cX7_payments 20 = .ok (.iload_n 2, 1) := by decide +kernel
theorem dX7_payments_21 : decode cX7_payments 21 = .ok (.iaload, 1) := by decide +kernel
theorem dX7_payments_22 : decode cX7_payments 22 = .ok (.ifCond .eq 6, 3) := by decide +kernel
theorem dX7_payments_25 : decode cX7_payments 25 = .ok (.iinc 1 1, 3) := by decide +kernel
theorem dX7_payments_28 : decode cX7_payments 28 = .ok (.iinc 2 1, 3) := by decide +kernel
theorem dX7_payments_31 : decode cX7_payments 31 = .ok (.goto (-23), 3) := by decide +kernel
theorem dX7_payments_34 : decode cX7_payments 34 = .ok (.iconst 0, 1) := by decide +kernel
theorem dX7_payments_35 : decode cX7_payments 35 = .ok (.istore_n 2, 1) := by decide +kernel
theorem dX7_payments_36 : decode cX7_payments 36 = .ok (.iload_n 2, 1) := by decide +kernel
theorem dX7_payments_37 : decode cX7_payments 37 = .ok (.iconst 1, 1) := by decide +kernel
theorem dX7_payments_38 : decode cX7_payments 38 = .ok (.aload_n 0, 1) := by decide +kernel
theorem dX7_payments_39 : decode cX7_payments 39 = .ok (.getfield 84, 3) := by decide +kernel
theorem dX7_payments_42 : decode cX7_payments 42 = .ok (.ishl, 1) := by decide +kernel
theorem dX7_payments_43 : decode cX7_payments 43 = .ok (.if_icmp .ge 155, 3) := by decide +kernel
theorem dX7_payments_46 : decode cX7_payments 46 = .ok (.iconst 0, 1) := by decide +kernel
theorem dX7_payments_47 : decode cX7_payments 47 = .ok (.istore_n 3, 1) := by decide +kernel
theorem dX7_payments_48 : decode cX7_payments 48 = .ok (.iconst 0, 1) := by decide +kernel
theorem dX7_payments_49 : decode cX7_payments 49 = .ok (.istore 4, 2) := by decide +kernel
theorem dX7_payments_51 : decode cX7_payments 51 = .ok (.iconst 0, 1) := by decide +kernel
theorem dX7_payments_52 : decode cX7_payments 52 = .ok (.istore 5, 2) := by decide +kernel
theorem dX7_payments_54 : decode cX7_payments 54 = .ok (.iload 5, 2) := by decide +kernel
theorem dX7_payments_56 : decode cX7_payments 56 = .ok (.aload_n 0, 1) := by decide +kernel
theorem dX7_payments_57 : decode cX7_payments 57 = .ok (.getfield 84, 3) := by decide +kernel
theorem dX7_payments_60 : decode cX7_payments 60 = .ok (.if_icmp .ge 45, 3) := by decide +kernel
theorem dX7_payments_63 : decode cX7_payments 63 = .ok (.iload_n 2, 1) := by decide +kernel
theorem dX7_payments_64 : decode cX7_payments 64 = .ok (.iload 5, 2) := by decide +kernel
theorem dX7_payments_66 : decode cX7_payments 66 = .ok (.ishr, 1) := by decide +kernel
theorem dX7_payments_67 : decode cX7_payments 67 = .ok (.iconst 1, 1) := by decide +kernel
theorem dX7_payments_68 : decode cX7_payments 68 = .ok (.iand, 1) := by decide +kernel
theorem dX7_payments_69 : decode cX7_payments 69 = .ok (.ifCond .ne 6, 3) := by decide +kernel
theorem dX7_payments_72 : decode cX7_payments 72 = .ok (.goto 27, 3) := by decide +kernel
theorem dX7_payments_75 : decode cX7_payments 75 = .ok (.aload_n 0, 1) := by decide +kernel
theorem dX7_payments_76 : decode cX7_payments 76 = .ok (.getfield 70, 3) := by decide +kernel
theorem dX7_payments_79 : decode cX7_payments 79 = .ok (.iload 5, 2) := by decide +kernel
theorem dX7_payments_81 : decode cX7_payments 81 = .ok (.iaload, 1) := by decide +kernel
theorem dX7_payments_82 : decode cX7_payments 82 = .ok (.ifCond .ne 7, 3) := by decide +kernel
theorem dX7_payments_85 : decode cX7_payments 85 = .ok (.bipush (-9), 2) := by decide +kernel
theorem dX7_payments_87 : decode cX7_payments 87 = .ok (.istore 4, 2) := by decide +kernel
theorem dX7_payments_89 : decode cX7_payments 89 = .ok (.iload_n 3, 1) := by decide +kernel
theorem dX7_payments_90 : decode cX7_payments 90 = .ok (.aload_n 0, 1) := by decide +kernel
theorem dX7_payments_91 : decode cX7_payments 91 = .ok (.getfield 70, 3) := by decide +kernel
theorem dX7_payments_94 : decode cX7_payments 94 = .ok (.iload 5, 2) := by decide +kernel
theorem dX7_payments_96 : decode cX7_payments 96 = .ok (.iaload, 1) := by decide +kernel
theorem dX7_payments_97 : decode cX7_payments 97 = .ok (.iadd, 1) := by decide +kernel
theorem dX7_payments_98 : decode cX7_payments 98 = .ok (.istore_n 3, 1) := by decide +kernel
theorem dX7_payments_99 : decode cX7_payments 99 = .ok (.iinc 5 1, 3) := by decide +kernel
theorem dX7_payments_102 : decode cX7_payments 102 = .ok (.goto (-48), 3) := by decide +kernel
theorem dX7_payments_105 : decode cX7_payments 105 = .ok (.iconst 0, 1) := by decide +kernel
theorem dX7_payments_106 : decode cX7_payments 106 = .ok (.istore 5, 2) := by decide +kernel
theorem dX7_payments_108 : decode cX7_payments 108 = .ok (.iload 5, 2) := by decide +kernel
theorem dX7_payments_110 : decode cX7_payments 110 = .ok (.aload_n 0, 1) := by decide +kernel
theorem dX7_payments_111 : decode cX7_payments 111 = .ok (.getfield 84, 3) := by decide +kernel
theorem dX7_payments_114 : decode cX7_payments 114 = .ok (.if_icmp .ge 44, 3) := by decide +kernel
theorem dX7_payments_117 : decode cX7_payments 117 = .ok (.iload 4, 2) := by decide +kernel
theorem dX7_payments_119 : decode cX7_payments 119 = .ok (.bipush (-9), 2) := by decide +kernel
theorem dX7_payments_121 : decode cX7_payments 121 = .ok (.if_icmp .eq 37, 3) := by decide +kernel
theorem dX7_payments_124 : decode cX7_payments 124 = .ok (.iload_n 2, 1) := by decide +kernel
theorem dX7_payments_125 : decode cX7_payments 125 = .ok (.iload 5, 2) := by decide +kernel
theorem dX7_payments_127 : decode cX7_payments 127 = .ok (.ishr, 1) := by decide +kernel
theorem dX7_payments_128 : decode cX7_payments 128 = .ok (.iconst 1, 1) := by decide +kernel
theorem dX7_payments_129 : decode cX7_payments 129 = .ok (.iand, 1) := by decide +kernel
theorem dX7_payments_130 : decode cX7_payments 130 = .ok (.iconst 1, 1) := by decide +kernel
theorem dX7_payments_131 : decode cX7_payments 131 = .ok (.if_icmp .ne 21, 3) := by decide +kernel
theorem dX7_payments_134 : decode cX7_payments 134 = .ok (.iload 4, 2) := by decide +kernel
theorem dX7_payments_136 : decode cX7_payments 136 = .ok (.aload_n 0, 1) := by decide +kernel
theorem dX7_payments_137 : decode cX7_payments 137 = .ok (.getfield 76, 3) := by decide +kernel
theorem dX7_payments_140 : decode cX7_payments 140 = .ok (.iload_n 2, 1) := by decide +kernel
theorem dX7_payments_141 : decode cX7_payments 141 = .ok (.iconst 1, 1) := by decide +kernel
theorem dX7_payments_142 : decode cX7_payments 142 = .ok (.iload 5, 2) := by decide +kernel
theorem dX7_payments_144 : decode cX7_payments 144 = .ok (.ishl, 1) := by decide +kernel
theorem dX7_payments_145 : decode cX7_payments 145 = .ok (.ixor, 1) := by decide +kernel
theorem dX7_payments_146 : decode cX7_payments 146 = .ok (.iaload, 1) := by decide +kernel
theorem dX7_payments_147 : decode cX7_payments 147 = .ok (.invokestatic 208, 3) := by decide +kernel
theorem dX7_payments_150 : decode cX7_payments 150 = .ok (.istore 4, 2) := by decide +kernel
theorem dX7_payments_152 : decode cX7_payments 152 = .ok (.iinc 5 1, 3) := by decide +kernel
theorem dX7_payments_155 : decode cX7_payments 155 = .ok (.goto (-47), 3) := by decide +kernel
theorem dX7_payments_158 : decode cX7_payments 158 = .ok (.aload_n 0, 1) := by decide +kernel
theorem dX7_payments_159 : decode cX7_payments 159 = .ok (.getfield 76, 3) := by decide +kernel
theorem dX7_payments_162 : decode cX7_payments 162 = .ok (.iload_n 2, 1) := by decide +kernel
theorem dX7_payments_163 : decode cX7_payments 163 = .ok (.iload 4, 2) := by decide +kernel
theorem dX7_payments_165 : decode cX7_payments 165 = .ok (.bipush (-9), 2) := by decide +kernel
theorem dX7_payments_167 : decode cX7_payments 167 = .ok (.if_icmp .ne 7, 3) := by decide +kernel
theorem dX7_payments_170 : decode cX7_payments 170 = .ok (.iconst 0, 1) := by decide +kernel
theorem dX7_payments_171 : decode cX7_payments 171 = .ok (.goto 20, 3) := by decide +kernel
theorem dX7_payments_174 : decode cX7_payments 174 = .ok (.iload_n 3, 1) := by decide +kernel
theorem dX7_payments_175 : decode cX7_payments 175 = .ok (.ifCond .ne 14, 3) := by decide +kernel
theorem dX7_payments_178 : decode cX7_payments 178 = .ok (.iload_n 2, 1) := by decide +kernel
theorem dX7_payments_179 : decode cX7_payments 179 = .ok (.ifCond .le 10, 3) := by decide +kernel
theorem dX7_payments_182 : decode cX7_payments 182 = .ok (.iload 4, 2) := by decide +kernel
theorem dX7_payments_184 : decode cX7_payments 184 = .ok (.iconst 1, 1) := by decide +kernel
theorem dX7_payments_185 : decode cX7_payments 185 = .ok (.iadd, 1) := by decide +kernel
theorem dX7_payments_186 : decode cX7_payments 186 = .ok (.goto 5, 3) := by decide +kernel
theorem dX7_payments_189 : decode cX7_payments 189 = .ok (.iload 4, 2) := by decide +kernel
theorem dX7_payments_191 : decode cX7_payments 191 = .ok (.iastore, 1) := by decide +kernel
theorem dX7_payments_192 : decode cX7_payments 192 = .ok (.iinc 2 1, 3) := by decide +kernel
theorem dX7_payments_195 : decode cX7_payments 195 = .ok (.goto (-159), 3) := by decide +kernel
theorem dX7_payments_198 : decode cX7_payments 198 = .ok (.iconst 0, 1) := by decide +kernel
theorem dX7_payments_199 : decode cX7_payments 199 = .ok (.istore_n 2, 1) := by decide +kernel
theorem dX7_payments_200 : decode cX7_payments 200 = .ok (.iconst 0, 1) := by decide +kernel
theorem dX7_payments_201 : decode cX7_payments 201 = .ok (.istore_n 3, 1) := by decide +kernel
theorem dX7_payments_202 : decode cX7_payments 202 = .ok (.iload_n 3, 1) := by decide +kernel
theorem dX7_payments_203 : decode cX7_payments 203 = .ok (.aload_n 0, 1) := by decide +kernel
theorem dX7_payments_204 : decode cX7_payments 204 = .ok (.getfield 84, 3) := by decide +kernel
theorem dX7_payments_207 : decode cX7_payments 207 = .ok (.if_icmp .ge 24, 3) := by decide +kernel
theorem dX7_payments_210 : decode cX7_payments 210 = .ok (.aload_n 0, 1) := by decide +kernel
theorem dX7_payments_211 : decode cX7_payments 211 = .ok (.getfield 70, 3) := by decide +kernel
theorem dX7_payments_214 : decode cX7_payments 214 = .ok (.iload_n 3, 1) := by decide +kernel
theorem dX7_payments_215 : decode cX7_payments 215 = .ok (.iaload, 1) := by decide +kernel
theorem dX7_payments_216 : decode cX7_payments 216 = .ok (.ifCond .eq 9, 3) := by decide +kernel
theorem dX7_payments_219 : decode cX7_payments 219 = .ok (.iload_n 2, 1) := by decide +kernel
theorem dX7_payments_220 : decode cX7_payments 220 = .ok (.iconst 1, 1) := by decide +kernel
theorem dX7_payments_221 : decode cX7_payments 221 = .ok (.iload_n 3, 1) := by decide +kernel
theorem dX7_payments_222 : decode cX7_payments 222 = .ok (.ishl, 1) := by decide +kernel
theorem dX7_payments_223 : decode cX7_payments 223 = .ok (.ior, 1) := by decide +kernel
theorem dX7_payments_224 : decode cX7_payments 224 = .ok (.istore_n 2, 1) := by decide +kernel
theorem dX7_payments_225 : decode cX7_payments 225 = .ok (.iinc 3 1, 3) := by decide +kernel
theorem dX7_payments_228 : decode cX7_payments 228 = .ok (.goto (-26), 3) := by decide +kernel
theorem dX7_payments_231 : decode cX7_payments 231 = .ok (.iload_n 1, 1) := by decide +kernel
theorem dX7_payments_232 : decode cX7_payments 232 = .ok (.aload_n 0, 1) := by decide +kernel
theorem dX7_payments_233 : decode cX7_payments 233 = .ok (.getfield 76, 3) := by decide +kernel
theorem dX7_payments_236 : decode cX7_payments 236 = .ok (.iload_n 2, 1) := by decide +kernel
theorem dX7_payments_237 : decode cX7_payments 237 = .ok (.iaload, 1) := by decide +kernel
theorem dX7_payments_238 : decode cX7_payments 238 = .ok (.isub, 1) := by decide +kernel
theorem dX7_payments_239 : decode cX7_payments 239 = .ok (.ireturn, 1) := by decide +kernel
theorem dX7_near_0 : decode cX7_near 0 = .ok (.iload_n 1, 1) := by decide +kernel
theorem dX7_near_1 : decode cX7_near 1 = .ok (.ifCond .ge 10, 3) := by decide +kernel
theorem dX7_near_4 : decode cX7_near 4 = .ok (.aload_n 0, 1) := by decide +kernel
theorem dX7_near_5 : decode cX7_near 5 = .ok (.bipush (-4), 2) := by decide +kernel
theorem dX7_near_7 : decode cX7_near 7 = .ok (.invokevirtual 80, 3) := by decide +kernel
theorem dX7_near_10 : decode cX7_near 10 = .ok (.ireturn, 1) := by decide +kernel
theorem dX7_near_11 : decode cX7_near 11 = .ok (.iload_n 1, 1) := by decide +kernel
theorem dX7_near_12 : decode cX7_near 12 = .ok (.bipush 11, 2) := by decide +kernel
theorem dX7_near_14 : decode cX7_near 14 = .ok (.if_icmp .le 10, 3) := by decide +kernel
theorem dX7_near_17 : decode cX7_near 17 = .ok (.aload_n 0, 1) := by decide +kernel
theorem dX7_near_18 : decode cX7_near 18 = .ok (.bipush (-6), 2) := by decide +kernel
theorem dX7_near_20 : decode cX7_near 20 = .ok (.invokevirtual 80, 3) := by decide +kernel
theorem dX7_near_23 : decode cX7_near 23 = .ok (.ireturn, 1) := by decide +kernel
theorem dX7_near_24 : decode cX7_near 24 = .ok (.iload_n 2, 1) := by decide +kernel
theorem dX7_near_25 : decode cX7_near 25 = .ok (.invokestatic 115, 3) := by decide +kernel
theorem dX7_near_28 : decode cX7_near 28 = .ok (.ifCond .ne 9, 3) := by decide +kernel
theorem dX7_near_31 : decode cX7_near 31 = .ok (.aload_n 0, 1) := by decide +kernel
theorem dX7_near_32 : decode cX7_near 32 = .ok (.iconst (-1), 1) := by decide +kernel
theorem dX7_near_33 : decode cX7_near 33 = .ok (.invokevirtual 80, 3) := by decide +kernel
theorem dX7_near_36 : decode cX7_near 36 = .ok (.ireturn, 1) := by decide +kernel
theorem dX7_near_37 : decode cX7_near 37 = .ok (.aload_n 0, 1) := by decide +kernel
theorem dX7_near_38 : decode cX7_near 38 = .ok (.invokevirtual 186, 3) := by decide +kernel
theorem dX7_near_41 : decode cX7_near 41 = .ok (.aload_n 0, 1) := by decide +kernel
theorem dX7_near_42 : decode cX7_near 42 = .ok (.getfield 67, 3) := by decide +kernel
theorem dX7_near_45 : decode cX7_near 45 = .ok (.iload_n 1, 1) := by decide +kernel
theorem dX7_near_46 : decode cX7_near 46 = .ok (.iaload, 1) := by decide +kernel
theorem dX7_near_47 : decode cX7_near 47 = .ok (.iload_n 2, 1) := by decide +kernel
theorem dX7_near_48 : decode cX7_near 48 = .ok (.isub, 1) := by decide +kernel
theorem dX7_near_49 : decode cX7_near 49 = .ok (.invokestatic 144, 3) := by decide +kernel
theorem dX7_near_52 : decode cX7_near 52 = .ok (.ireturn, 1) := by decide +kernel
theorem dX7_midwife_0 : decode cX7_midwife 0 = .ok (.iload_n 1, 1) := by decide +kernel
theorem dX7_midwife_1 : decode cX7_midwife 1 = .ok (.invokestatic 115, 3) := by decide +kernel
theorem dX7_midwife_4 : decode cX7_midwife 4 = .ok (.ifCond .ne 9, 3) := by decide +kernel
theorem dX7_midwife_7 : decode cX7_midwife 7 = .ok (.aload_n 0, 1) := by decide +kernel
theorem dX7_midwife_8 : decode cX7_midwife 8 = .ok (.iconst (-1), 1) := by decide +kernel
theorem dX7_midwife_9 : decode cX7_midwife 9 = .ok (.invokevirtual 80, 3) := by decide +kernel
theorem dX7_midwife_12 : decode cX7_midwife 12 = .ok (.ireturn, 1) := by decide +kernel
theorem dX7_midwife_13 : decode cX7_midwife 13 = .ok (.aload_n 0, 1) := by decide +kernel
theorem dX7_midwife_14 : decode cX7_midwife 14 = .ok (.invokevirtual 186, 3) := by decide +kernel
theorem dX7_midwife_17 : decode cX7_midwife 17 = .ok (.iconst 0, 1) := by decide +kernel
theorem dX7_midwife_18 : decode cX7_midwife 18 = .ok (.istore_n 2, 1) := by decide +kernel
theorem dX7_midwife_19 : decode cX7_midwife 19 = .ok (.iconst 1, 1) := by decide +kernel
theorem dX7_midwife_20 : decode cX7_midwife 20 = .ok (.istore_n 3, 1) := by decide +kernel
theorem dX7_midwife_21 : decode cX7_midwife 21 = .ok (.iload_n 3, 1) := by decide +kernel
theorem dX7_midwife_22 : decode cX7_midwife 22 = .ok (.bipush 12, 2) := by decide +kernel
theorem dX7_midwife_24 : decode cX7_midwife 24 = .ok (.if_icmp .ge 36, 3) := by decide +kernel
theorem dX7_midwife_27 : decode cX7_midwife 27 = .ok (.aload_n 0, 1) := by decide +kernel
theorem dX7_midwife_28 : decode cX7_midwife 28 = .ok (.getfield 67, 3) := by decide +kernel
theorem dX7_midwife_31 : decode cX7_midwife 31 = .ok (.iload_n 3, 1) := by decide +kernel
theorem dX7_midwife_32 : decode cX7_midwife 32 = .ok (.iaload, 1) := by decide +kernel
theorem dX7_midwife_33 : decode cX7_midwife 33 = .ok (.iload_n 1, 1) := by decide +kernel
theorem dX7_midwife_34 : decode cX7_midwife 34 = .ok (.isub, 1) := by decide +kernel
theorem dX7_midwife_35 : decode cX7_midwife 35 = .ok (.invokestatic 144, 3) := by decide +kernel
theorem dX7_midwife_38 : decode cX7_midwife 38 = .ok (.aload_n 0, 1) := by decide +kernel
theorem dX7_midwife_39 : decode cX7_midwife 39 = .ok (.getfield 67, 3) := by decide +kernel
theorem dX7_midwife_42 : decode cX7_midwife 42 = .ok (.iload_n 2, 1) := by decide +kernel
theorem dX7_midwife_43 : decode cX7_midwife 43 = .ok (.iaload, 1) := by decide +kernel
theorem dX7_midwife_44 : decode cX7_midwife 44 = .ok (.iload_n 1, 1) := by decide +kernel
theorem dX7_midwife_45 : decode cX7_midwife 45 = .ok (.isub, 1) := by decide +kernel
theorem dX7_midwife_46 : decode cX7_midwife 46 = .ok (.invokestatic 144, 3) := by decide +kernel
theorem dX7_midwife_49 : decode cX7_midwife 49 = .ok (.if_icmp .le 5, 3) := by decide +kernel
theorem dX7_midwife_52 : decode cX7_midwife 52 = .ok (.iload_n 3, 1) := by decide +kernel
theorem dX7_midwife_53 : decode cX7_midwife 53 = .ok (.istore_n 2, 1) := by decide +kernel
theorem dX7_midwife_54 : decode cX7_midwife 54 = .ok (.iinc 3 1, 3) := by decide +kernel
theorem dX7_midwife_57 : decode cX7_midwife 57 = .ok (.goto (-36), 3) := by decide +kernel
theorem dX7_midwife_60 : decode cX7_midwife 60 = .ok (.iload_n 2, 1) := by decide +kernel
theorem dX7_midwife_61 : decode cX7_midwife 61 = .ok (.ireturn, 1) := by decide +kernel
theorem dX7_watch_0 : decode cX7_watch 0 = .ok (.aload_n 0, 1) := by decide +kernel
theorem dX7_watch_1 : decode cX7_watch 1 = .ok (.invokevirtual 186, 3) := by decide +kernel
theorem dX7_watch_4 : decode cX7_watch 4 = .ok (.iconst 0, 1) := by decide +kernel
theorem dX7_watch_5 : decode cX7_watch 5 = .ok (.istore_n 1, 1) := by decide +kernel
theorem dX7_watch_6 : decode cX7_watch 6 = .ok (.iconst 0, 1) := by decide +kernel
theorem dX7_watch_7 : decode cX7_watch 7 = .ok (.istore_n 2, 1) := by decide +kernel
theorem dX7_watch_8 : decode cX7_watch 8 = .ok (.iload_n 2, 1) := by decide +kernel
theorem dX7_watch_9 : decode cX7_watch 9 = .ok (.bipush 12, 2) := by decide +kernel
theorem dX7_watch_11 : decode cX7_watch 11 = .ok (.if_icmp .ge 83, 3) := by decide +kernel
theorem dX7_watch_14 : decode cX7_watch 14 = .ok (.iconst 0, 1) := by decide +kernel
theorem dX7_watch_15 : decode cX7_watch 15 = .ok (.istore_n 3, 1) := by decide +kernel
theorem dX7_watch_16 : decode cX7_watch 16 = .ok (.iconst 0, 1) := by decide +kernel
theorem dX7_watch_17 : decode cX7_watch 17 = .ok (.istore 4, 2) := by decide +kernel
theorem dX7_watch_19 : decode cX7_watch 19 = .ok (.iload 4, 2) := by decide +kernel
theorem dX7_watch_21 : decode cX7_watch 21 = .ok (.aload_n 0, 1) := by decide +kernel
theorem dX7_watch_22 : decode cX7_watch 22 = .ok (.getfield 84, 3) := by decide +kernel
theorem dX7_watch_25 : decode cX7_watch 25 = .ok (.if_icmp .ge 53, 3) := by decide +kernel
theorem dX7_watch_28 : decode cX7_watch 28 = .ok (.aload_n 0, 1) := by decide +kernel
theorem dX7_watch_29 : decode cX7_watch 29 = .ok (.getfield 67, 3) := by decide +kernel
theorem dX7_watch_32 : decode cX7_watch 32 = .ok (.iload_n 2, 1) := by decide +kernel
theorem dX7_watch_33 : decode cX7_watch 33 = .ok (.iaload, 1) := by decide +kernel
theorem dX7_watch_34 : decode cX7_watch 34 = .ok (.aload_n 0, 1) := by decide +kernel
theorem dX7_watch_35 : decode cX7_watch 35 = .ok (.getfield 16, 3) := by decide +kernel
theorem dX7_watch_38 : decode cX7_watch 38 = .ok (.iload 4, 2) := by decide +kernel
theorem dX7_watch_40 : decode cX7_watch 40 = .ok (.iaload, 1) := by decide +kernel
theorem dX7_watch_41 : decode cX7_watch 41 = .ok (.isub, 1) := by decide +kernel
theorem dX7_watch_42 : decode cX7_watch 42 = .ok (.invokestatic 144, 3) := by decide +kernel
theorem dX7_watch_45 : decode cX7_watch 45 = .ok (.iconst 4, 1) := by decide +kernel
theorem dX7_watch_46 : decode cX7_watch 46 = .ok (.if_icmp .lt 24, 3) := by decide +kernel
theorem dX7_watch_49 : decode cX7_watch 49 = .ok (.aload_n 0, 1) := by decide +kernel
theorem dX7_watch_50 : decode cX7_watch 50 = .ok (.getfield 67, 3) := by decide +kernel
theorem dX7_watch_53 : decode cX7_watch 53 = .ok (.iload_n 2, 1) := by decide +kernel
theorem dX7_watch_54 : decode cX7_watch 54 = .ok (.iaload, 1) := by decide +kernel
theorem dX7_watch_55 : decode cX7_watch 55 = .ok (.aload_n 0, 1) := by decide +kernel
theorem dX7_watch_56 : decode cX7_watch 56 = .ok (.getfield 19, 3) := by decide +kernel
theorem dX7_watch_59 : decode cX7_watch 59 = .ok (.iload 4, 2) := by decide +kernel
theorem dX7_watch_61 : decode cX7_watch 61 = .ok (.iaload, 1) := by decide +kernel
theorem dX7_watch_62 : decode cX7_watch 62 = .ok (.isub, 1) := by decide +kernel
theorem dX7_watch_63 : decode cX7_watch 63 = .ok (.invokestatic 144, 3) := by decide +kernel
theorem dX7_watch_66 : decode cX7_watch 66 = .ok (.iconst 4, 1) := by decide +kernel
theorem dX7_watch_67 : decode cX7_watch 67 = .ok (.if_icmp .ge 5, 3) := by decide +kernel
theorem dX7_watch_70 : decode cX7_watch 70 = .ok (.iconst 1, 1) := by decide +kernel
theorem dX7_watch_71 : decode cX7_watch 71 = .ok (.istore_n 3, 1) := by decide +kernel
theorem dX7_watch_72 : decode cX7_watch 72 = .ok (.iinc 4 1, 3) := by decide +kernel
theorem dX7_watch_75 : decode cX7_watch 75 = .ok (.goto (-56), 3) := by decide +kernel
theorem dX7_watch_78 : decode cX7_watch 78 = .ok (.iload_n 3, 1) := by decide +kernel
theorem dX7_watch_79 : decode cX7_watch 79 = .ok (.ifCond .ne 9, 3) := by decide +kernel
theorem dX7_watch_82 : decode cX7_watch 82 = .ok (.iload_n 1, 1) := by decide +kernel
theorem dX7_watch_83 : decode cX7_watch 83 = .ok (.iconst 1, 1) := by decide +kernel
theorem dX7_watch_84 : decode cX7_watch 84 = .ok (.iload_n 2, 1) := by decide +kernel
theorem dX7_watch_85 : decode cX7_watch 85 = .ok (.ishl, 1) := by decide +kernel
theorem dX7_watch_86 : decode cX7_watch 86 = .ok (.ior, 1) := by decide +kernel
theorem dX7_watch_87 : decode cX7_watch 87 = .ok (.istore_n 1, 1) := by decide +kernel
theorem dX7_watch_88 : decode cX7_watch 88 = .ok (.iinc 2 1, 3) := by decide +kernel
theorem dX7_watch_91 : decode cX7_watch 91 = .ok (.goto (-83), 3) := by decide +kernel
theorem dX7_watch_94 : decode cX7_watch 94 = .ok (.iload_n 1, 1) := by decide +kernel
theorem dX7_watch_95 : decode cX7_watch 95 = .ok (.ireturn, 1) := by decide +kernel
theorem dX7_wrong_0 : decode cX7_wrong 0 = .ok (.aload_n 0, 1) := by decide +kernel
theorem dX7_wrong_1 : decode cX7_wrong 1 = .ok (.invokevirtual 186, 3) := by decide +kernel
theorem dX7_wrong_4 : decode cX7_wrong 4 = .ok (.iconst 0, 1) := by decide +kernel
theorem dX7_wrong_5 : decode cX7_wrong 5 = .ok (.istore_n 1, 1) := by decide +kernel
theorem dX7_wrong_6 : decode cX7_wrong 6 = .ok (.iload_n 1, 1) := by decide +kernel
theorem dX7_wrong_7 : decode cX7_wrong 7 = .ok (.aload_n 0, 1) := by decide +kernel
theorem dX7_wrong_8 : decode cX7_wrong 8 = .ok (.getfield 214, 3) := by decide +kernel
theorem dX7_wrong_11 : decode cX7_wrong 11 = .ok (.if_icmp .ge 26, 3) := by decide +kernel
theorem dX7_wrong_14 : decode cX7_wrong 14 = .ok (.aload_n 0, 1) := by decide +kernel
theorem dX7_wrong_15 : decode cX7_wrong 15 = .ok (.getfield 34, 3) := by decide +kernel
theorem dX7_wrong_18 : decode cX7_wrong 18 = .ok (.iload_n 1, 1) := by decide +kernel
theorem dX7_wrong_19 : decode cX7_wrong 19 = .ok (.iaload, 1) := by decide +kernel
theorem dX7_wrong_20 : decode cX7_wrong 20 = .ok (.aload_n 0, 1) := by decide +kernel
theorem dX7_wrong_21 : decode cX7_wrong 21 = .ok (.getfield 67, 3) := by decide +kernel
theorem dX7_wrong_24 : decode cX7_wrong 24 = .ok (.iload_n 1, 1) := by decide +kernel
theorem dX7_wrong_25 : decode cX7_wrong 25 = .ok (.iaload, 1) := by decide +kernel
theorem dX7_wrong_26 : decode cX7_wrong 26 = .ok (.if_icmp .eq 5, 3) := by decide +kernel
theorem dX7_wrong_29 : decode cX7_wrong 29 = .ok (.iload_n 1, 1) := by decide +kernel
theorem dX7_wrong_30 : decode cX7_wrong 30 = .ok (.ireturn, 1) := by decide +kernel
theorem dX7_wrong_31 : decode cX7_wrong 31 = .ok (.iinc 1 1, 3) := by decide +kernel
theorem dX7_wrong_34 : decode cX7_wrong 34 = .ok (.goto (-28), 3) := by decide +kernel
theorem dX7_wrong_37 : decode cX7_wrong 37 = .ok (.bipush (-9), 2) := by decide +kernel
theorem dX7_wrong_39 : decode cX7_wrong 39 = .ok (.ireturn, 1) := by decide +kernel
theorem dX7_whoHad_0 : decode cX7_whoHad 0 = .ok (.aload_n 0, 1) := by decide +kernel
theorem dX7_whoHad_1 : decode cX7_whoHad 1 = .ok (.iload_n 1, 1) := by decide +kernel
theorem dX7_whoHad_2 : decode cX7_whoHad 2 = .ok (.invokevirtual 121, 3) := by decide +kernel
theorem dX7_whoHad_5 : decode cX7_whoHad 5 = .ok (.ifCond .ne 9, 3) := by decide +kernel
theorem dX7_whoHad_8 : decode cX7_whoHad 8 = .ok (.aload_n 0, 1) := by decide +kernel
theorem dX7_whoHad_9 : decode cX7_whoHad 9 = .ok (.iconst (-1), 1) := by decide +kernel
theorem dX7_whoHad_10 : decode cX7_whoHad 10 = .ok (.invokevirtual 80, 3) := by decide +kernel
theorem dX7_whoHad_13 : decode cX7_whoHad 13 = .ok (.ireturn, 1) := by decide +kernel
theorem dX7_whoHad_14 : decode cX7_whoHad 14 = .ok (.iload_n 2, 1) := by decide +kernel
theorem dX7_whoHad_15 : decode cX7_whoHad 15 = .ok (.iconst 0, 1) := by decide +kernel
theorem dX7_whoHad_16 : decode cX7_whoHad 16 = .ok (.iconst 1, 1) := by decide +kernel
theorem dX7_whoHad_17 : decode cX7_whoHad 17 = .ok (.invokestatic 88, 3) := by decide +kernel
theorem dX7_whoHad_20 : decode cX7_whoHad 20 = .ok (.ifCond .ne 10, 3) := by decide +kernel
theorem dX7_whoHad_23 : decode cX7_whoHad 23 = .ok (.aload_n 0, 1) := by decide +kernel
theorem dX7_whoHad_24 : decode cX7_whoHad 24 = .ok (.bipush (-2), 2) := by decide +kernel
theorem dX7_whoHad_26 : decode cX7_whoHad 26 = .ok (.invokevirtual 80, 3) := by decide +kernel
theorem dX7_whoHad_29 : decode cX7_whoHad 29 = .ok (.ireturn, 1) := by decide +kernel
theorem dX7_whoHad_30 : decode cX7_whoHad 30 = .ok (.aload_n 0, 1) := by decide +kernel
theorem dX7_whoHad_31 : decode cX7_whoHad 31 = .ok (.getfield 7, 3) := by decide +kernel
theorem dX7_whoHad_34 : decode cX7_whoHad 34 = .ok (.iload_n 1, 1) := by decide +kernel
theorem dX7_whoHad_35 : decode cX7_whoHad 35 = .ok (.iaload, 1) := by decide +kernel
theorem dX7_whoHad_36 : decode cX7_whoHad 36 = .ok (.istore_n 3, 1) := by decide +kernel
theorem dX7_whoHad_37 : decode cX7_whoHad 37 = .ok (.aload_n 0, 1) := by decide +kernel
theorem dX7_whoHad_38 : decode cX7_whoHad 38 = .ok (.getfield 13, 3) := by decide +kernel
theorem dX7_whoHad_41 : decode cX7_whoHad 41 = .ok (.iload_n 1, 1) := by decide +kernel
theorem dX7_whoHad_42 : decode cX7_whoHad 42 = .ok (.iaload, 1) := by decide +kernel
theorem dX7_whoHad_43 : decode cX7_whoHad 43 = .ok (.istore 4, 2) := by decide +kernel
theorem dX7_whoHad_45 : decode cX7_whoHad 45 = .ok (.iconst 0, 1) := by decide +kernel
theorem dX7_whoHad_46 : decode cX7_whoHad 46 = .ok (.istore 5, 2) := by decide +kernel
theorem dX7_whoHad_48 : decode cX7_whoHad 48 = .ok (.iconst 0, 1) := by decide +kernel
theorem dX7_whoHad_49 : decode cX7_whoHad 49 = .ok (.istore 6, 2) := by decide +kernel
theorem dX7_whoHad_51 : decode cX7_whoHad 51 = .ok (.iload 6, 2) := by decide +kernel
theorem dX7_whoHad_53 : decode cX7_whoHad 53 = .ok (.iload_n 2, 1) := by decide +kernel
theorem dX7_whoHad_54 : decode cX7_whoHad 54 = .ok (.ifCond .ne 8, 3) := by decide +kernel
theorem dX7_whoHad_57 : decode cX7_whoHad 57 = .ok (.bipush 6, 2) := by decide +kernel
theorem dX7_whoHad_59 : decode cX7_whoHad 59 = .ok (.goto 5, 3) := by decide +kernel
theorem dX7_whoHad_62 : decode cX7_whoHad 62 = .ok (.bipush 10, 2) := by decide +kernel
theorem dX7_whoHad_64 : decode cX7_whoHad 64 = .ok (.if_icmp .ge 50, 3) := by decide +kernel
theorem dX7_whoHad_67 : decode cX7_whoHad 67 = .ok (.iload_n 2, 1) := by decide +kernel
theorem dX7_whoHad_68 : decode cX7_whoHad 68 = .ok (.ifCond .ne 14, 3) := by decide +kernel
theorem dX7_whoHad_71 : decode cX7_whoHad 71 = .ok (.aload_n 0, 1) := by decide +kernel
theorem dX7_whoHad_72 : decode cX7_whoHad 72 = .ok (.getfield 7, 3) := by decide +kernel
theorem dX7_whoHad_75 : decode cX7_whoHad 75 = .ok (.iload_n 1, 1) := by decide +kernel
theorem dX7_whoHad_76 : decode cX7_whoHad 76 = .ok (.iload 6, 2) := by decide +kernel
theorem dX7_whoHad_78 : decode cX7_whoHad 78 = .ok (.iastore, 1) := by decide +kernel
theorem dX7_whoHad_79 : decode cX7_whoHad 79 = .ok (.goto 11, 3) := by decide +kernel
theorem dX7_whoHad_82 : decode cX7_whoHad 82 = .ok (.aload_n 0, 1) := by decide +kernel
theorem dX7_whoHad_83 : decode cX7_whoHad 83 = .ok (.getfield 13, 3) := by decide +kernel
theorem dX7_whoHad_86 : decode cX7_whoHad 86 = .ok (.iload_n 1, 1) := by decide +kernel
theorem dX7_whoHad_87 : decode cX7_whoHad 87 = .ok (.iload 6, 2) := by decide +kernel
theorem dX7_whoHad_89 : decode cX7_whoHad 89 = .ok (.iastore, 1) := by decide +kernel
theorem dX7_whoHad_90 : decode cX7_whoHad 90 = .ok (.aload_n 0, 1) := by decide +kernel
theorem dX7_whoHad_91 : decode cX7_whoHad 91 = .ok (.invokevirtual 217, 3) := by decide +kernel
theorem dX7_whoHad_94 : decode cX7_whoHad 94 = .ok (.bipush (-9), 2) := by decide +kernel
theorem dX7_whoHad_96 : decode cX7_whoHad 96 = .ok (.if_icmp .ne 12, 3) := by decide +kernel
theorem dX7_whoHad_99 : decode cX7_whoHad 99 = .ok (.iload 5, 2) := by decide +kernel
theorem dX7_whoHad_101 : decode cX7_whoHad 101 = .ok (.iconst 1, 1) := by decide +kernel
theorem dX7_whoHad_102 : decode cX7_whoHad 102 = .ok (.iload 6, 2) := by decide +kernel
theorem dX7_whoHad_104 : decode cX7_whoHad 104 = .ok (.ishl, 1) := by decide +kernel
theorem dX7_whoHad_105 : decode cX7_whoHad 105 = .ok (.ior, 1) := by decide +kernel
theorem dX7_whoHad_106 : decode cX7_whoHad 106 = .ok (.istore 5, 2) := by decide +kernel
theorem dX7_whoHad_108 : decode cX7_whoHad 108 = .ok (.iinc 6 1, 3) := by decide +kernel
theorem dX7_whoHad_111 : decode cX7_whoHad 111 = .ok (.goto (-60), 3) := by decide +kernel
theorem dX7_whoHad_114 : decode cX7_whoHad 114 = .ok (.aload_n 0, 1) := by decide +kernel
theorem dX7_whoHad_115 : decode cX7_whoHad 115 = .ok (.getfield 7, 3) := by decide +kernel
theorem dX7_whoHad_118 : decode cX7_whoHad 118 = .ok (.iload_n 1, 1) := by decide +kernel
theorem dX7_whoHad_119 : decode cX7_whoHad 119 = .ok (.iload_n 3, 1) := by decide +kernel
theorem dX7_whoHad_120 : decode cX7_whoHad 120 = .ok (.iastore, 1) := by decide +kernel
theorem dX7_whoHad_121 : decode cX7_whoHad 121 = .ok (.aload_n 0, 1) := by decide +kernel
theorem dX7_whoHad_122 : decode cX7_whoHad 122 = .ok (.getfield 13, 3) := by decide +kernel
theorem dX7_whoHad_125 : decode cX7_whoHad 125 = .ok (.iload_n 1, 1) := by decide +kernel
theorem dX7_whoHad_126 : decode cX7_whoHad 126 = .ok (.iload 4, 2) := by decide +kernel
theorem dX7_whoHad_128 : decode cX7_whoHad 128 = .ok (.iastore, 1) := by decide +kernel
theorem dX7_whoHad_129 : decode cX7_whoHad 129 = .ok (.iload 5, 2) := by decide +kernel
theorem dX7_whoHad_131 : decode cX7_whoHad 131 = .ok (.ireturn, 1) := by decide +kernel
theorem dX7_leastOil_0 : decode cX7_leastOil 0 = .ok (.aload_n 0, 1) := by decide +kernel
theorem dX7_leastOil_1 : decode cX7_leastOil 1 = .ok (.getfield 25, 3) := by decide +kernel
theorem dX7_leastOil_4 : decode cX7_leastOil 4 = .ok (.iconst 1, 1) := by decide +kernel
theorem dX7_leastOil_5 : decode cX7_leastOil 5 = .ok (.iaload, 1) := by decide +kernel
theorem dX7_leastOil_6 : decode cX7_leastOil 6 = .ok (.istore_n 1, 1) := by decide +kernel
theorem dX7_leastOil_7 : decode cX7_leastOil 7 = .ok (.aload_n 0, 1) := by decide +kernel
theorem dX7_leastOil_8 : decode cX7_leastOil 8 = .ok (.getfield 25, 3) := by decide +kernel
theorem dX7_leastOil_11 : decode cX7_leastOil 11 = .ok (.iconst 1, 1) := by decide +kernel
theorem dX7_leastOil_12 : decode cX7_leastOil 12 = .ok (.sipush 200, 3) := by decide +kernel
theorem dX7_leastOil_15 : decode cX7_leastOil 15 = .ok (.iastore, 1) := by decide +kernel
theorem dX7_leastOil_16 : decode cX7_leastOil 16 = .ok (.aload_n 0, 1) := by decide +kernel
theorem dX7_leastOil_17 : decode cX7_leastOil 17 = .ok (.invokevirtual 199, 3) := by decide +kernel
theorem dX7_leastOil_20 : decode cX7_leastOil 20 = .ok (.istore_n 2, 1) := by decide +kernel
theorem dX7_leastOil_21 : decode cX7_leastOil 21 = .ok (.sipush 200, 3) := by decide +kernel
theorem dX7_leastOil_24 : decode cX7_leastOil 24 = .ok (.istore_n 3, 1) := by decide +kernel
theorem dX7_leastOil_25 : decode cX7_leastOil 25 = .ok (.sipush 199, 3) := by decide +kernel
theorem dX7_leastOil_28 : decode cX7_leastOil 28 = .ok (.istore 4, 2) := by decide +kernel
theorem dX7_leastOil_30 : decode cX7_leastOil 30 = .ok (.iload 4, 2) := by decide +kernel
theorem dX7_leastOil_32 : decode cX7_leastOil 32 = .ok (.ifCond .lt 28, 3) := by decide +kernel
theorem dX7_leastOil_35 : decode cX7_leastOil 35 = .ok (.aload_n 0, 1) := by decide +kernel
theorem dX7_leastOil_36 : decode cX7_leastOil 36 = .ok (.getfield 25, 3) := by decide +kernel
theorem dX7_leastOil_39 : decode cX7_leastOil 39 = .ok (.iconst 1, 1) := by decide +kernel
theorem dX7_leastOil_40 : decode cX7_leastOil 40 = .ok (.iload 4, 2) := by decide +kernel
theorem dX7_leastOil_42 : decode cX7_leastOil 42 = .ok (.iastore, 1) := by decide +kernel
theorem dX7_leastOil_43 : decode cX7_leastOil 43 = .ok (.aload_n 0, 1) := by decide +kernel
theorem dX7_leastOil_44 : decode cX7_leastOil 44 = .ok (.invokevirtual 199, 3) := by decide +kernel
theorem dX7_leastOil_47 : decode cX7_leastOil 47 = .ok (.iload_n 2, 1) := by decide +kernel
theorem dX7_leastOil_48 : decode cX7_leastOil 48 = .ok (.if_icmp .ne 6, 3) := by decide +kernel
theorem dX7_leastOil_51 : decode cX7_leastOil 51 = .ok (.iload 4, 2) := by decide +kernel
theorem dX7_leastOil_53 : decode cX7_leastOil 53 = .ok (.istore_n 3, 1) := by decide +kernel
theorem dX7_leastOil_54 : decode cX7_leastOil 54 = .ok (.iinc 4 (-1), 3) := by decide +kernel
theorem dX7_leastOil_57 : decode cX7_leastOil 57 = .ok (.goto (-27), 3) := by decide +kernel
theorem dX7_leastOil_60 : decode cX7_leastOil 60 = .ok (.aload_n 0, 1) := by decide +kernel
theorem dX7_leastOil_61 : decode cX7_leastOil 61 = .ok (.getfield 25, 3) := by decide +kernel
theorem dX7_leastOil_64 : decode cX7_leastOil 64 = .ok (.iconst 1, 1) := by decide +kernel
theorem dX7_leastOil_65 : decode cX7_leastOil 65 = .ok (.iload_n 1, 1) := by decide +kernel
theorem dX7_leastOil_66 : decode cX7_leastOil 66 = .ok (.iastore, 1) := by decide +kernel
theorem dX7_leastOil_67 : decode cX7_leastOil 67 = .ok (.iload_n 3, 1) := by decide +kernel
theorem dX7_leastOil_68 : decode cX7_leastOil 68 = .ok (.ireturn, 1) := by decide +kernel
theorem dX7_row_0 : decode cX7_row 0 = .ok (.iload_n 1, 1) := by decide +kernel
theorem dX7_row_1 : decode cX7_row 1 = .ok (.ifCond .ge 10, 3) := by decide +kernel
theorem dX7_row_4 : decode cX7_row 4 = .ok (.aload_n 0, 1) := by decide +kernel
theorem dX7_row_5 : decode cX7_row 5 = .ok (.bipush (-4), 2) := by decide +kernel
theorem dX7_row_7 : decode cX7_row 7 = .ok (.invokevirtual 80, 3) := by decide +kernel
theorem dX7_row_10 : decode cX7_row 10 = .ok (.ireturn, 1) := by decide +kernel
theorem dX7_row_11 : decode cX7_row 11 = .ok (.iload_n 1, 1) := by decide +kernel
theorem dX7_row_12 : decode cX7_row 12 = .ok (.bipush 99, 2) := by decide +kernel
theorem dX7_row_14 : decode cX7_row 14 = .ok (.if_icmp .gt 12, 3) := by decide +kernel
theorem dX7_row_17 : decode cX7_row 17 = .ok (.aload_n 0, 1) := by decide +kernel
theorem dX7_row_18 : decode cX7_row 18 = .ok (.getfield 214, 3) := by decide +kernel
theorem dX7_row_21 : decode cX7_row 21 = .ok (.bipush 12, 2) := by decide +kernel
theorem dX7_row_23 : decode cX7_row 23 = .ok (.if_icmp .ne 10, 3) := by decide +kernel
theorem dX7_row_26 : decode cX7_row 26 = .ok (.aload_n 0, 1) := by decide +kernel
theorem dX7_row_27 : decode cX7_row 27 = .ok (.bipush (-6), 2) := by decide +kernel
theorem dX7_row_29 : decode cX7_row 29 = .ok (.invokevirtual 80, 3) := by decide +kernel
theorem dX7_row_32 : decode cX7_row 32 = .ok (.ireturn, 1) := by decide +kernel
theorem dX7_row_33 : decode cX7_row 33 = .ok (.aload_n 0, 1) := by decide +kernel
theorem dX7_row_34 : decode cX7_row 34 = .ok (.getfield 34, 3) := by decide +kernel
theorem dX7_row_37 : decode cX7_row 37 = .ok (.aload_n 0, 1) := by decide +kernel
theorem dX7_row_38 : decode cX7_row 38 = .ok (.dup, 1) := by decide +kernel
theorem dX7_row_39 : decode cX7_row 39 = .ok (.getfield 214, 3) := by decide +kernel
theorem dX7_row_42 : decode cX7_row 42 = .ok (.dup_x1, 1) := by decide +kernel
theorem dX7_row_43 : decode cX7_row 43 = .ok (.iconst 1, 1) := by decide +kernel
theorem dX7_row_44 : decode cX7_row 44 = .ok (.iadd, 1) := by decide +kernel
theorem dX7_row_45 : decode cX7_row 45 = .ok (.putfield 214, 3) := by decide +kernel
theorem dX7_row_48 : decode cX7_row 48 = .ok (.iload_n 1, 1) := by decide +kernel
theorem dX7_row_49 : decode cX7_row 49 = .ok (.iastore, 1) := by decide +kernel
theorem dX7_row_50 : decode cX7_row 50 = .ok (.aload_n 0, 1) := by decide +kernel
theorem dX7_row_51 : decode cX7_row 51 = .ok (.getfield 214, 3) := by decide +kernel
theorem dX7_row_54 : decode cX7_row 54 = .ok (.ireturn, 1) := by decide +kernel
theorem dX7_judge_0 : decode cX7_judge 0 = .ok (.aload_n 0, 1) := by decide +kernel
theorem dX7_judge_1 : decode cX7_judge 1 = .ok (.invokevirtual 217, 3) := by decide +kernel
theorem dX7_judge_4 : decode cX7_judge 4 = .ok (.istore_n 1, 1) := by decide +kernel
theorem dX7_judge_5 : decode cX7_judge 5 = .ok (.aload_n 0, 1) := by decide +kernel
theorem dX7_judge_6 : decode cX7_judge 6 = .ok (.iconst 0, 1) := by decide +kernel
theorem dX7_judge_7 : decode cX7_judge 7 = .ok (.putfield 214, 3) := by decide +kernel
theorem dX7_judge_10 : decode cX7_judge 10 = .ok (.iload_n 1, 1) := by decide +kernel
theorem dX7_judge_11 : decode cX7_judge 11 = .ok (.ireturn, 1) := by decide +kernel
theorem dX7_clear_0 : decode cX7_clear 0 = .ok (.aload_n 0, 1) := by decide +kernel
theorem dX7_clear_1 : decode cX7_clear 1 = .ok (.getfield 214, 3) := by decide +kernel
theorem dX7_clear_4 : decode cX7_clear 4 = .ok (.istore_n 1, 1) := by decide +kernel
theorem dX7_clear_5 : decode cX7_clear 5 = .ok (.aload_n 0, 1) := by decide +kernel
theorem dX7_clear_6 : decode cX7_clear 6 = .ok (.iconst 0, 1) := by decide +kernel
theorem dX7_clear_7 : decode cX7_clear 7 = .ok (.putfield 214, 3) := by decide +kernel
theorem dX7_clear_10 : decode cX7_clear 10 = .ok (.iload_n 1, 1) := by decide +kernel
theorem dX7_clear_11 : decode cX7_clear 11 = .ok (.ireturn, 1) := by decide +kernel
theorem dX7_lots_0 : decode cX7_lots 0 = .ok (.iload_n 1, 1) := by decide +kernel
theorem dX7_lots_1 : decode cX7_lots 1 = .ok (.iconst 1, 1) := by decide +kernel
theorem dX7_lots_2 : decode cX7_lots 2 = .ok (.if_icmp .ge 10, 3) := by decide +kernel
theorem dX7_lots_5 : decode cX7_lots 5 = .ok (.aload_n 0, 1) := by decide +kernel
theorem dX7_lots_6 : decode cX7_lots 6 = .ok (.bipush (-4), 2) := by decide +kernel
theorem dX7_lots_8 : decode cX7_lots 8 = .ok (.invokevirtual 80, 3) := by decide +kernel
theorem dX7_lots_11 : decode cX7_lots 11 = .ok (.ireturn, 1) := by decide +kernel
theorem dX7_lots_12 : decode cX7_lots 12 = .ok (.iload_n 1, 1) := by decide +kernel
theorem dX7_lots_13 : decode cX7_lots 13 = .ok (.bipush 20, 2) := by decide +kernel
theorem dX7_lots_15 : decode cX7_lots 15 = .ok (.if_icmp .le 10, 3) := by decide +kernel
theorem dX7_lots_18 : decode cX7_lots 18 = .ok (.aload_n 0, 1) := by decide +kernel
theorem dX7_lots_19 : decode cX7_lots 19 = .ok (.bipush (-6), 2) := by decide +kernel
theorem dX7_lots_21 : decode cX7_lots 21 = .ok (.invokevirtual 80, 3) := by decide +kernel
theorem dX7_lots_24 : decode cX7_lots 24 = .ok (.ireturn, 1) := by decide +kernel
theorem dX7_lots_25 : decode cX7_lots 25 = .ok (.iload_n 3, 1) := by decide +kernel
theorem dX7_lots_26 : decode cX7_lots 26 = .ok (.iconst 0, 1) := by decide +kernel
theorem dX7_lots_27 : decode cX7_lots 27 = .ok (.iconst 1, 1) := by decide +kernel
theorem dX7_lots_28 : decode cX7_lots 28 = .ok (.invokestatic 88, 3) := by decide +kernel
theorem dX7_lots_31 : decode cX7_lots 31 = .ok (.ifCond .ne 10, 3) := by decide +kernel
theorem dX7_lots_34 : decode cX7_lots 34 = .ok (.aload_n 0, 1) := by decide +kernel
theorem dX7_lots_35 : decode cX7_lots 35 = .ok (.bipush (-2), 2) := by decide +kernel
theorem dX7_lots_37 : decode cX7_lots 37 = .ok (.invokevirtual 80, 3) := by decide +kernel
theorem dX7_lots_40 : decode cX7_lots 40 = .ok (.ireturn, 1) := by decide +kernel
theorem dX7_lots_41 : decode cX7_lots 41 = .ok (.aload_n 0, 1) := by decide +kernel
theorem dX7_lots_42 : decode cX7_lots 42 = .ok (.aload_n 0, 1) := by decide +kernel
theorem dX7_lots_43 : decode cX7_lots 43 = .ok (.getfield 43, 3) := by decide +kernel
theorem dX7_lots_46 : decode cX7_lots 46 = .ok (.invokevirtual 128, 3) := by decide +kernel
theorem dX7_lots_49 : decode cX7_lots 49 = .ok (.iload_n 2, 1) := by decide +kernel
theorem dX7_lots_50 : decode cX7_lots 50 = .ok (.istore 4, 2) := by decide +kernel
theorem dX7_lots_52 : decode cX7_lots 52 = .ok (.iconst 0, 1) := by decide +kernel
theorem dX7_lots_53 : decode cX7_lots 53 = .ok (.istore 5, 2) := by decide +kernel
theorem dX7_lots_55 : decode cX7_lots 55 = .ok (.iconst 0, 1) := by decide +kernel
theorem dX7_lots_56 : decode cX7_lots 56 = .ok (.istore 6, 2) := by decide +kernel
theorem dX7_lots_58 : decode cX7_lots 58 = .ok (.iconst 0, 1) := by decide +kernel
theorem dX7_lots_59 : decode cX7_lots 59 = .ok (.istore 7, 2) := by decide +kernel
theorem dX7_lots_61 : decode cX7_lots 61 = .ok (.iload 7, 2) := by decide +kernel
theorem dX7_lots_63 : decode cX7_lots 63 = .ok (.iload_n 1, 1) := by decide +kernel
theorem dX7_lots_64 : decode cX7_lots 64 = .ok (.if_icmp .ge 83, 3) := by decide +kernel
theorem dX7_lots_67 : decode cX7_lots 67 = .ok (.iconst 0, 1) := by decide +kernel
theorem dX7_lots_68 : decode cX7_lots 68 = .ok (.istore 8, 2) := by decide +kernel
theorem dX7_lots_70 : decode cX7_lots 70 = .ok (.iload 8, 2) := by decide +kernel
theorem dX7_lots_72 : decode cX7_lots 72 = .ok (.aload_n 0, 1) := by decide +kernel
theorem dX7_lots_73 : decode cX7_lots 73 = .ok (.getfield 84, 3) := by decide +kernel
theorem dX7_lots_76 : decode cX7_lots 76 = .ok (.if_icmp .ge 38, 3) := by decide +kernel
theorem dX7_lots_79 : decode cX7_lots 79 = .ok (.iload 4, 2) := by decide +kernel
theorem dX7_lots_81 : decode cX7_lots 81 = .ok (.ldc 220, 2) := by decide +kernel
theorem dX7_lots_83 : decode cX7_lots 83 = .ok (.imul, 1) := by decide +kernel
theorem dX7_lots_84 : decode cX7_lots 84 = .ok (.ldc 221, 2) := by decide +kernel
theorem dX7_lots_86 : decode cX7_lots 86 = .ok (.iadd, 1) := by decide +kernel
theorem dX7_lots_87 : decode cX7_lots 87 = .ok (.istore 4, 2) := by decide +kernel
theorem dX7_lots_89 : decode cX7_lots 89 = .ok (.aload_n 0, 1) := by decide +kernel
theorem dX7_lots_90 : decode cX7_lots 90 = .ok (.getfield 22, 3) := by decide +kernel
theorem dX7_lots_93 : decode cX7_lots 93 = .ok (.iload 8, 2) := by decide +kernel
theorem dX7_lots_95 : decode cX7_lots 95 = .ok (.iload 4, 2) := by decide +kernel
theorem dX7_lots_97 : decode cX7_lots 97 = .ok (.ldc 222, 2) := by decide +kernel
theorem dX7_lots_99 : decode cX7_lots 99 = .ok (.iand, 1) := by decide +kernel
theorem dX7_lots_100 : decode cX7_lots 100 = .ok (.sipush 256, 3) := by decide +kernel
theorem dX7_lots_103 : decode cX7_lots 103 = .ok (.idiv, 1) := by decide +kernel
theorem dX7_lots_104 : decode cX7_lots 104 = .ok (.bipush 12, 2) := by decide +kernel
theorem dX7_lots_106 : decode cX7_lots 106 = .ok (.irem, 1) := by decide +kernel
theorem dX7_lots_107 : decode cX7_lots 107 = .ok (.iastore, 1) := by decide +kernel
theorem dX7_lots_108 : decode cX7_lots 108 = .ok (.iinc 8 1, 3) := by decide +kernel
theorem dX7_lots_111 : decode cX7_lots 111 = .ok (.goto (-41), 3) := by decide +kernel
theorem dX7_lots_114 : decode cX7_lots 114 = .ok (.iload 5, 2) := by decide +kernel
theorem dX7_lots_116 : decode cX7_lots 116 = .ok (.aload_n 0, 1) := by decide +kernel
theorem dX7_lots_117 : decode cX7_lots 117 = .ok (.invokevirtual 199, 3) := by decide +kernel
theorem dX7_lots_120 : decode cX7_lots 120 = .ok (.iadd, 1) := by decide +kernel
theorem dX7_lots_121 : decode cX7_lots 121 = .ok (.istore 5, 2) := by decide +kernel
theorem dX7_lots_123 : decode cX7_lots 123 = .ok (.aload_n 0, 1) := by decide +kernel
theorem dX7_lots_124 : decode cX7_lots 124 = .ok (.getfield 49, 3) := by decide +kernel
theorem dX7_lots_127 : decode cX7_lots 127 = .ok (.iconst 0, 1) := by decide +kernel
theorem dX7_lots_128 : decode cX7_lots 128 = .ok (.iaload, 1) := by decide +kernel
theorem dX7_lots_129 : decode cX7_lots 129 = .ok (.aload_n 0, 1) := by decide +kernel
theorem dX7_lots_130 : decode cX7_lots 130 = .ok (.getfield 25, 3) := by decide +kernel
theorem dX7_lots_133 : decode cX7_lots 133 = .ok (.iconst 0, 1) := by decide +kernel
theorem dX7_lots_134 : decode cX7_lots 134 = .ok (.iaload, 1) := by decide +kernel
theorem dX7_lots_135 : decode cX7_lots 135 = .ok (.if_icmp .ne 6, 3) := by decide +kernel
theorem dX7_lots_138 : decode cX7_lots 138 = .ok (.iinc 6 1, 3) := by decide +kernel
theorem dX7_lots_141 : decode cX7_lots 141 = .ok (.iinc 7 1, 3) := by decide +kernel
theorem dX7_lots_144 : decode cX7_lots 144 = .ok (.goto (-83), 3) := by decide +kernel
theorem dX7_lots_147 : decode cX7_lots 147 = .ok (.aload_n 0, 1) := by decide +kernel
theorem dX7_lots_148 : decode cX7_lots 148 = .ok (.aload_n 0, 1) := by decide +kernel
theorem dX7_lots_149 : decode cX7_lots 149 = .ok (.getfield 43, 3) := by decide +kernel
theorem dX7_lots_152 : decode cX7_lots 152 = .ok (.invokevirtual 132, 3) := by decide +kernel
theorem dX7_lots_155 : decode cX7_lots 155 = .ok (.iload_n 3, 1) := by decide +kernel
theorem dX7_lots_156 : decode cX7_lots 156 = .ok (.ifCond .ne 8, 3) := by decide +kernel
theorem dX7_lots_159 : decode cX7_lots 159 = .ok (.iload 5, 2) := by decide +kernel
theorem dX7_lots_161 : decode cX7_lots 161 = .ok (.goto 5, 3) := by decide +kernel
theorem dX7_lots_164 : decode cX7_lots 164 = .ok (.iload 6, 2) := by decide +kernel
theorem dX7_lots_166 : decode cX7_lots 166 = .ok (.ireturn, 1) := by decide +kernel
theorem dX7_keep_0 : decode cX7_keep 0 = .ok (.iconst 0, 1) := by decide +kernel
theorem dX7_keep_1 : decode cX7_keep 1 = .ok (.istore_n 2, 1) := by decide +kernel
theorem dX7_keep_2 : decode cX7_keep 2 = .ok (.iload_n 2, 1) := by decide +kernel
theorem dX7_keep_3 : decode cX7_keep 3 = .ok (.bipush 7, 2) := by decide +kernel
theorem dX7_keep_5 : decode cX7_keep 5 = .ok (.if_icmp .ge 66, 3) := by decide +kernel
theorem dX7_keep_8 : decode cX7_keep 8 = .ok (.aload_n 1, 1) := by decide +kernel
theorem dX7_keep_9 : decode cX7_keep 9 = .ok (.iload_n 2, 1) := by decide +kernel
theorem dX7_keep_10 : decode cX7_keep 10 = .ok (.aload_n 0, 1) := by decide +kernel
theorem dX7_keep_11 : decode cX7_keep 11 = .ok (.getfield 7, 3) := by decide +kernel
theorem dX7_keep_14 : decode cX7_keep 14 = .ok (.iload_n 2, 1) := by decide +kernel
theorem dX7_keep_15 : decode cX7_keep 15 = .ok (.iaload, 1) := by decide +kernel
theorem dX7_keep_16 : decode cX7_keep 16 = .ok (.iastore, 1) := by decide +kernel
theorem dX7_keep_17 : decode cX7_keep 17 = .ok (.aload_n 1, 1) := by decide +kernel
theorem dX7_keep_18 : decode cX7_keep 18 = .ok (.bipush 7, 2) := by decide +kernel
theorem dX7_keep_20 : decode cX7_keep 20 = .ok (.iload_n 2, 1) := by decide +kernel
theorem dX7_keep_21 : decode cX7_keep 21 = .ok (.iadd, 1) := by decide +kernel
theorem dX7_keep_22 : decode cX7_keep 22 = .ok (.aload_n 0, 1) := by decide +kernel
theorem dX7_keep_23 : decode cX7_keep 23 = .ok (.getfield 13, 3) := by decide +kernel
theorem dX7_keep_26 : decode cX7_keep 26 = .ok (.iload_n 2, 1) := by decide +kernel
theorem dX7_keep_27 : decode cX7_keep 27 = .ok (.iaload, 1) := by decide +kernel
theorem dX7_keep_28 : decode cX7_keep 28 = .ok (.iastore, 1) := by decide +kernel
theorem dX7_keep_29 : decode cX7_keep 29 = .ok (.aload_n 1, 1) := by decide +kernel
theorem dX7_keep_30 : decode cX7_keep 30 = .ok (.bipush 14, 2) := by decide +kernel
theorem dX7_keep_32 : decode cX7_keep 32 = .ok (.iload_n 2, 1) := by decide +kernel
theorem dX7_keep_33 : decode cX7_keep 33 = .ok (.iadd, 1) := by decide +kernel
theorem dX7_keep_34 : decode cX7_keep 34 = .ok (.aload_n 0, 1) := by decide +kernel
theorem dX7_keep_35 : decode cX7_keep 35 = .ok (.getfield 16, 3) := by decide +kernel
theorem dX7_keep_38 : decode cX7_keep 38 = .ok (.iload_n 2, 1) := by decide +kernel
theorem dX7_keep_39 : decode cX7_keep 39 = .ok (.iaload, 1) := by decide +kernel
theorem dX7_keep_40 : decode cX7_keep 40 = .ok (.iastore, 1) := by decide +kernel
theorem dX7_keep_41 : decode cX7_keep 41 = .ok (.aload_n 1, 1) := by decide +kernel
theorem dX7_keep_42 : decode cX7_keep 42 = .ok (.bipush 21, 2) := by decide +kernel
theorem dX7_keep_44 : decode cX7_keep 44 = .ok (.iload_n 2, 1) := by decide +kernel
theorem dX7_keep_45 : decode cX7_keep 45 = .ok (.iadd, 1) := by decide +kernel
theorem dX7_keep_46 : decode cX7_keep 46 = .ok (.aload_n 0, 1) := by decide +kernel
theorem dX7_keep_47 : decode cX7_keep 47 = .ok (.getfield 19, 3) := by decide +kernel
theorem dX7_keep_50 : decode cX7_keep 50 = .ok (.iload_n 2, 1) := by decide +kernel
theorem dX7_keep_51 : decode cX7_keep 51 = .ok (.iaload, 1) := by decide +kernel
theorem dX7_keep_52 : decode cX7_keep 52 = .ok (.iastore, 1) := by decide +kernel
theorem dX7_keep_53 : decode cX7_keep 53 = .ok (.aload_n 1, 1) := by decide +kernel
theorem dX7_keep_54 : decode cX7_keep 54 = .ok (.bipush 28, 2) := by decide +kernel
theorem dX7_keep_56 : decode cX7_keep 56 = .ok (.iload_n 2, 1) := by decide +kernel
theorem dX7_keep_57 : decode cX7_keep 57 = .ok (.iadd, 1) := by decide +kernel
theorem dX7_keep_58 : decode cX7_keep 58 = .ok (.aload_n 0, 1) := by decide +kernel
theorem dX7_keep_59 : decode cX7_keep 59 = .ok (.getfield 22, 3) := by decide +kernel
theorem dX7_keep_62 : decode cX7_keep 62 = .ok (.iload_n 2, 1) := by decide +kernel
theorem dX7_keep_63 : decode cX7_keep 63 = .ok (.iaload, 1) := by decide +kernel
theorem dX7_keep_64 : decode cX7_keep 64 = .ok (.iastore, 1) := by decide +kernel
theorem dX7_keep_65 : decode cX7_keep 65 = .ok (.iinc 2 1, 3) := by decide +kernel
theorem dX7_keep_68 : decode cX7_keep 68 = .ok (.goto (-66), 3) := by decide +kernel
theorem dX7_keep_71 : decode cX7_keep 71 = .ok (.iconst 0, 1) := by decide +kernel
theorem dX7_keep_72 : decode cX7_keep 72 = .ok (.istore_n 2, 1) := by decide +kernel
theorem dX7_keep_73 : decode cX7_keep 73 = .ok (.iload_n 2, 1) := by decide +kernel
theorem dX7_keep_74 : decode cX7_keep 74 = .ok (.iconst 3, 1) := by decide +kernel
theorem dX7_keep_75 : decode cX7_keep 75 = .ok (.if_icmp .ge 21, 3) := by decide +kernel
theorem dX7_keep_78 : decode cX7_keep 78 = .ok (.aload_n 1, 1) := by decide +kernel
theorem dX7_keep_79 : decode cX7_keep 79 = .ok (.bipush 35, 2) := by decide +kernel
theorem dX7_keep_81 : decode cX7_keep 81 = .ok (.iload_n 2, 1) := by decide +kernel
theorem dX7_keep_82 : decode cX7_keep 82 = .ok (.iadd, 1) := by decide +kernel
theorem dX7_keep_83 : decode cX7_keep 83 = .ok (.aload_n 0, 1) := by decide +kernel
theorem dX7_keep_84 : decode cX7_keep 84 = .ok (.getfield 25, 3) := by decide +kernel
theorem dX7_keep_87 : decode cX7_keep 87 = .ok (.iload_n 2, 1) := by decide +kernel
theorem dX7_keep_88 : decode cX7_keep 88 = .ok (.iaload, 1) := by decide +kernel
theorem dX7_keep_89 : decode cX7_keep 89 = .ok (.iastore, 1) := by decide +kernel
theorem dX7_keep_90 : decode cX7_keep 90 = .ok (.iinc 2 1, 3) := by decide +kernel
theorem dX7_keep_93 : decode cX7_keep 93 = .ok (.goto (-20), 3) := by decide +kernel
theorem dX7_keep_96 : decode cX7_keep 96 = .ok (.aload_n 1, 1) := by decide +kernel
theorem dX7_keep_97 : decode cX7_keep 97 = .ok (.bipush 38, 2) := by decide +kernel
theorem dX7_keep_99 : decode cX7_keep 99 = .ok (.aload_n 0, 1) := by decide +kernel
theorem dX7_keep_100 : decode cX7_keep 100 = .ok (.getfield 84, 3) := by decide +kernel
theorem dX7_keep_103 : decode cX7_keep 103 = .ok (.iastore, 1) := by decide +kernel
theorem dX7_keep_104 : decode cX7_keep 104 = .ok (.return_, 1) := by decide +kernel
theorem dX7_again_0 : decode cX7_again 0 = .ok (.iconst 0, 1) := by decide +kernel
theorem dX7_again_1 : decode cX7_again 1 = .ok (.istore_n 2, 1) := by decide +kernel
theorem dX7_again_2 : decode cX7_again 2 = .ok (.iload_n 2, 1) := by decide +kernel
theorem dX7_again_3 : decode cX7_again 3 = .ok (.bipush 7, 2) := by decide +kernel
theorem dX7_again_5 : decode cX7_again 5 = .ok (.if_icmp .ge 66, 3) := by decide +kernel
theorem dX7_again_8 : decode cX7_again 8 = .ok (.aload_n 0, 1) := by decide +kernel
theorem dX7_again_9 : decode cX7_again 9 = .ok (.getfield 7, 3) := by decide +kernel
theorem dX7_again_12 : decode cX7_again 12 = .ok (.iload_n 2, 1) := by decide +kernel
theorem dX7_again_13 : decode cX7_again 13 = .ok (.aload_n 1, 1) := by decide +kernel
theorem dX7_again_14 : decode cX7_again 14 = .ok (.iload_n 2, 1) := by decide +kernel
theorem dX7_again_15 : decode cX7_again 15 = .ok (.iaload, 1) := by decide +kernel
theorem dX7_again_16 : decode cX7_again 16 = .ok (.iastore, 1) := by decide +kernel
theorem dX7_again_17 : decode cX7_again 17 = .ok (.aload_n 0, 1) := by decide +kernel
theorem dX7_again_18 : decode cX7_again 18 = .ok (.getfield 13, 3) := by decide +kernel
theorem dX7_again_21 : decode cX7_again 21 = .ok (.iload_n 2, 1) := by decide +kernel
theorem dX7_again_22 : decode cX7_again 22 = .ok (.aload_n 1, 1) := by decide +kernel
theorem dX7_again_23 : decode cX7_again 23 = .ok (.bipush 7, 2) := by decide +kernel
theorem dX7_again_25 : decode cX7_again 25 = .ok (.iload_n 2, 1) := by decide +kernel
theorem dX7_again_26 : decode cX7_again 26 = .ok (.iadd, 1) := by decide +kernel
theorem dX7_again_27 : decode cX7_again 27 = .ok (.iaload, 1) := by decide +kernel
theorem dX7_again_28 : decode cX7_again 28 = .ok (.iastore, 1) := by decide +kernel
theorem dX7_again_29 : decode cX7_again 29 = .ok (.aload_n 0, 1) := by decide +kernel
theorem dX7_again_30 : decode cX7_again 30 = .ok (.getfield 16, 3) := by decide +kernel
theorem dX7_again_33 : decode cX7_again 33 = .ok (.iload_n 2, 1) := by decide +kernel
theorem dX7_again_34 : decode cX7_again 34 = .ok (.aload_n 1, 1) := by decide +kernel
theorem dX7_again_35 : decode cX7_again 35 = .ok (.bipush 14, 2) := by decide +kernel
theorem dX7_again_37 : decode cX7_again 37 = .ok (.iload_n 2, 1) := by decide +kernel
theorem dX7_again_38 : decode cX7_again 38 = .ok (.iadd, 1) := by decide +kernel
theorem dX7_again_39 : decode cX7_again 39 = .ok (.iaload, 1) := by decide +kernel
theorem dX7_again_40 : decode cX7_again 40 = .ok (.iastore, 1) := by decide +kernel
theorem dX7_again_41 : decode cX7_again 41 = .ok (.aload_n 0, 1) := by decide +kernel
theorem dX7_again_42 : decode cX7_again 42 = .ok (.getfield 19, 3) := by decide +kernel
theorem dX7_again_45 : decode cX7_again 45 = .ok (.iload_n 2, 1) := by decide +kernel
theorem dX7_again_46 : decode cX7_again 46 = .ok (.aload_n 1, 1) := by decide +kernel
theorem dX7_again_47 : decode cX7_again 47 = .ok (.bipush 21, 2) := by decide +kernel
theorem dX7_again_49 : decode cX7_again 49 = .ok (.iload_n 2, 1) := by decide +kernel
theorem dX7_again_50 : decode cX7_again 50 = .ok (.iadd, 1) := by decide +kernel
theorem dX7_again_51 : decode cX7_again 51 = .ok (.iaload, 1) := by decide +kernel
theorem dX7_again_52 : decode cX7_again 52 = .ok (.iastore, 1) := by decide +kernel
theorem dX7_again_53 : decode cX7_again 53 = .ok (.aload_n 0, 1) := by decide +kernel
theorem dX7_again_54 : decode cX7_again 54 = .ok (.getfield 22, 3) := by decide +kernel
theorem dX7_again_57 : decode cX7_again 57 = .ok (.iload_n 2, 1) := by decide +kernel
theorem dX7_again_58 : decode cX7_again 58 = .ok (.aload_n 1, 1) := by decide +kernel
theorem dX7_again_59 : decode cX7_again 59 = .ok (.bipush 28, 2) := by decide +kernel
theorem dX7_again_61 : decode cX7_again 61 = .ok (.iload_n 2, 1) := by decide +kernel
theorem dX7_again_62 : decode cX7_again 62 = .ok (.iadd, 1) := by decide +kernel
theorem dX7_again_63 : decode cX7_again 63 = .ok (.iaload, 1) := by decide +kernel
theorem dX7_again_64 : decode cX7_again 64 = .ok (.iastore, 1) := by decide +kernel
theorem dX7_again_65 : decode cX7_again 65 = .ok (.iinc 2 1, 3) := by decide +kernel
theorem dX7_again_68 : decode cX7_again 68 = .ok (.goto (-66), 3) := by decide +kernel
theorem dX7_again_71 : decode cX7_again 71 = .ok (.iconst 0, 1) := by decide +kernel
theorem dX7_again_72 : decode cX7_again 72 = .ok (.istore_n 2, 1) := by decide +kernel
theorem dX7_again_73 : decode cX7_again 73 = .ok (.iload_n 2, 1) := by decide +kernel
theorem dX7_again_74 : decode cX7_again 74 = .ok (.iconst 3, 1) := by decide +kernel
theorem dX7_again_75 : decode cX7_again 75 = .ok (.if_icmp .ge 21, 3) := by decide +kernel
theorem dX7_again_78 : decode cX7_again 78 = .ok (.aload_n 0, 1) := by decide +kernel
theorem dX7_again_79 : decode cX7_again 79 = .ok (.getfield 25, 3) := by decide +kernel
theorem dX7_again_82 : decode cX7_again 82 = .ok (.iload_n 2, 1) := by decide +kernel
theorem dX7_again_83 : decode cX7_again 83 = .ok (.aload_n 1, 1) := by decide +kernel
theorem dX7_again_84 : decode cX7_again 84 = .ok (.bipush 35, 2) := by decide +kernel
theorem dX7_again_86 : decode cX7_again 86 = .ok (.iload_n 2, 1) := by decide +kernel
theorem dX7_again_87 : decode cX7_again 87 = .ok (.iadd, 1) := by decide +kernel
theorem dX7_again_88 : decode cX7_again 88 = .ok (.iaload, 1) := by decide +kernel
theorem dX7_again_89 : decode cX7_again 89 = .ok (.iastore, 1) := by decide +kernel
theorem dX7_again_90 : decode cX7_again 90 = .ok (.iinc 2 1, 3) := by decide +kernel
theorem dX7_again_93 : decode cX7_again 93 = .ok (.goto (-20), 3) := by decide +kernel
theorem dX7_again_96 : decode cX7_again 96 = .ok (.aload_n 0, 1) := by decide +kernel
theorem dX7_again_97 : decode cX7_again 97 = .ok (.aload_n 1, 1) := by decide +kernel
theorem dX7_again_98 : decode cX7_again 98 = .ok (.bipush 38, 2) := by decide +kernel
theorem dX7_again_100 : decode cX7_again 100 = .ok (.iaload, 1) := by decide +kernel
theorem dX7_again_101 : decode cX7_again 101 = .ok (.putfield 84, 3) := by decide +kernel
theorem dX7_again_104 : decode cX7_again 104 = .ok (.return_, 1) := by decide +kernel
theorem dX7_image_0 : decode cX7_image 0 = .ok (.aload_n 0, 1) := by decide +kernel
theorem dX7_image_1 : decode cX7_image 1 = .ok (.iconst 1, 1) := by decide +kernel
theorem dX7_image_2 : decode cX7_image 2 = .ok (.putfield 223, 3) := by decide +kernel
theorem dX7_image_5 : decode cX7_image 5 = .ok (.aload_n 0, 1) := by decide +kernel
theorem dX7_image_6 : decode cX7_image 6 = .ok (.aload_n 0, 1) := by decide +kernel
theorem dX7_image_7 : decode cX7_image 7 = .ok (.getfield 40, 3) := by decide +kernel
theorem dX7_image_10 : decode cX7_image 10 = .ok (.invokevirtual 128, 3) := by decide +kernel
theorem dX7_image_13 : decode cX7_image 13 = .ok (.aload_n 0, 1) := by decide +kernel
theorem dX7_image_14 : decode cX7_image 14 = .ok (.getfield 84, 3) := by decide +kernel
theorem dX7_image_17 : decode cX7_image 17 = .ok (.ireturn, 1) := by decide +kernel
theorem dX7_on_0 : decode cX7_on 0 = .ok (.aload_n 0, 1) := by decide +kernel
theorem dX7_on_1 : decode cX7_on 1 = .ok (.getfield 223, 3) := by decide +kernel
theorem dX7_on_4 : decode cX7_on 4 = .ok (.ifCond .ne 10, 3) := by decide +kernel
theorem dX7_on_7 : decode cX7_on 7 = .ok (.aload_n 0, 1) := by decide +kernel
theorem dX7_on_8 : decode cX7_on 8 = .ok (.bipush (-3), 2) := by decide +kernel
theorem dX7_on_10 : decode cX7_on 10 = .ok (.invokevirtual 80, 3) := by decide +kernel
theorem dX7_on_13 : decode cX7_on 13 = .ok (.ireturn, 1) := by decide +kernel
theorem dX7_on_14 : decode cX7_on 14 = .ok (.aload_n 0, 1) := by decide +kernel
theorem dX7_on_15 : decode cX7_on 15 = .ok (.aload_n 0, 1) := by decide +kernel
theorem dX7_on_16 : decode cX7_on 16 = .ok (.getfield 40, 3) := by decide +kernel
theorem dX7_on_19 : decode cX7_on 19 = .ok (.invokevirtual 132, 3) := by decide +kernel
theorem dX7_on_22 : decode cX7_on 22 = .ok (.aload_n 0, 1) := by decide +kernel
theorem dX7_on_23 : decode cX7_on 23 = .ok (.getfield 84, 3) := by decide +kernel
theorem dX7_on_26 : decode cX7_on 26 = .ok (.ireturn, 1) := by decide +kernel
theorem dX7_count_0 : decode cX7_count 0 = .ok (.iconst 0, 1) := by decide +kernel
theorem dX7_count_1 : decode cX7_count 1 = .ok (.istore_n 2, 1) := by decide +kernel
theorem dX7_count_2 : decode cX7_count 2 = .ok (.iload_n 1, 1) := by decide +kernel
theorem dX7_count_3 : decode cX7_count 3 = .ok (.tableswitch 114 0 6 #[41, 46, 53, 60, 67, 104, 109], 41) := by decide +kernel
theorem dX7_count_44 : decode cX7_count 44 = .ok (.aload_n 0, 1) := by decide +kernel
theorem dX7_count_45 : decode cX7_count 45 = .ok (.getfield 84, 3) := by decide +kernel
theorem dX7_count_48 : decode cX7_count 48 = .ok (.ireturn, 1) := by decide +kernel
theorem dX7_count_49 : decode cX7_count 49 = .ok (.aload_n 0, 1) := by decide +kernel
theorem dX7_count_50 : decode cX7_count 50 = .ok (.getfield 25, 3) := by decide +kernel
theorem dX7_count_53 : decode cX7_count 53 = .ok (.iconst 0, 1) := by decide +kernel
theorem dX7_count_54 : decode cX7_count 54 = .ok (.iaload, 1) := by decide +kernel
theorem dX7_count_55 : decode cX7_count 55 = .ok (.ireturn, 1) := by decide +kernel
theorem dX7_count_56 : decode cX7_count 56 = .ok (.aload_n 0, 1) := by decide +kernel
theorem dX7_count_57 : decode cX7_count 57 = .ok (.getfield 25, 3) := by decide +kernel
theorem dX7_count_60 : decode cX7_count 60 = .ok (.iconst 1, 1) := by decide +kernel
theorem dX7_count_61 : decode cX7_count 61 = .ok (.iaload, 1) := by decide +kernel
theorem dX7_count_62 : decode cX7_count 62 = .ok (.ireturn, 1) := by decide +kernel
theorem dX7_count_63 : decode cX7_count 63 = .ok (.aload_n 0, 1) := by decide +kernel
theorem dX7_count_64 : decode cX7_count 64 = .ok (.getfield 25, 3) := by decide +kernel
theorem dX7_count_67 : decode cX7_count 67 = .ok (.iconst 2, 1) := by decide +kernel
theorem dX7_count_68 : decode cX7_count 68 = .ok (.iaload, 1) := by decide +kernel
theorem dX7_count_69 : decode cX7_count 69 = .ok (.ireturn, 1) := by decide +kernel
theorem dX7_count_70 : decode cX7_count 70 = .ok (.iconst 0, 1) := by decide +kernel
theorem dX7_count_71 : decode cX7_count 71 = .ok (.istore_n 3, 1) := by decide +kernel
theorem dX7_count_72 : decode cX7_count 72 = .ok (.iload_n 3, 1) := by decide +kernel
theorem dX7_count_73 : decode cX7_count 73 = .ok (.aload_n 0, 1) := by decide +kernel
theorem dX7_count_74 : decode cX7_count 74 = .ok (.getfield 84, 3) := by decide +kernel
theorem dX7_count_77 : decode cX7_count 77 = .ok (.if_icmp .ge 28, 3) := by decide +kernel
theorem dX7_count_80 : decode cX7_count 80 = .ok (.iload_n 2, 1) := by decide +kernel
theorem dX7_count_81 : decode cX7_count 81 = .ok (.aload_n 0, 1) := by decide +kernel
theorem dX7_count_82 : decode cX7_count 82 = .ok (.getfield 16, 3) := by decide +kernel
theorem dX7_count_85 : decode cX7_count 85 = .ok (.iload_n 3, 1) := by decide +kernel
theorem dX7_count_86 : decode cX7_count 86 = .ok (.iaload, 1) := by decide +kernel
theorem dX7_count_87 : decode cX7_count 87 = .ok (.aload_n 0, 1) := by decide +kernel
theorem dX7_count_88 : decode cX7_count 88 = .ok (.getfield 19, 3) := by decide +kernel
theorem dX7_count_91 : decode cX7_count 91 = .ok (.iload_n 3, 1) := by decide +kernel
theorem dX7_count_92 : decode cX7_count 92 = .ok (.iaload, 1) := by decide +kernel
theorem dX7_count_93 : decode cX7_count 93 = .ok (.isub, 1) := by decide +kernel
theorem dX7_count_94 : decode cX7_count 94 = .ok (.invokestatic 144, 3) := by decide +kernel
theorem dX7_count_97 : decode cX7_count 97 = .ok (.iadd, 1) := by decide +kernel
theorem dX7_count_98 : decode cX7_count 98 = .ok (.istore_n 2, 1) := by decide +kernel
theorem dX7_count_99 : decode cX7_count 99 = .ok (.iinc 3 1, 3) := by decide +kernel
theorem dX7_count_102 : decode cX7_count 102 = .ok (.goto (-30), 3) := by decide +kernel
theorem dX7_count_105 : decode cX7_count 105 = .ok (.iload_n 2, 1) := by decide +kernel
theorem dX7_count_106 : decode cX7_count 106 = .ok (.ireturn, 1) := by decide +kernel
theorem dX7_count_107 : decode cX7_count 107 = .ok (.aload_n 0, 1) := by decide +kernel
theorem dX7_count_108 : decode cX7_count 108 = .ok (.getfield 214, 3) := by decide +kernel
theorem dX7_count_111 : decode cX7_count 111 = .ok (.ireturn, 1) := by decide +kernel
theorem dX7_count_112 : decode cX7_count 112 = .ok (.aload_n 0, 1) := by decide +kernel
theorem dX7_count_113 : decode cX7_count 113 = .ok (.getfield 92, 3) := by decide +kernel
theorem dX7_count_116 : decode cX7_count 116 = .ok (.ireturn, 1) := by decide +kernel
theorem dX7_count_117 : decode cX7_count 117 = .ok (.iload_n 1, 1) := by decide +kernel
theorem dX7_count_118 : decode cX7_count 118 = .ok (.bipush 11, 2) := by decide +kernel
theorem dX7_count_120 : decode cX7_count 120 = .ok (.bipush 16, 2) := by decide +kernel
theorem dX7_count_122 : decode cX7_count 122 = .ok (.invokestatic 88, 3) := by decide +kernel
theorem dX7_count_125 : decode cX7_count 125 = .ok (.ifCond .eq 15, 3) := by decide +kernel
theorem dX7_count_128 : decode cX7_count 128 = .ok (.aload_n 0, 1) := by decide +kernel
theorem dX7_count_129 : decode cX7_count 129 = .ok (.getfield 37, 3) := by decide +kernel
theorem dX7_count_132 : decode cX7_count 132 = .ok (.iload_n 1, 1) := by decide +kernel
theorem dX7_count_133 : decode cX7_count 133 = .ok (.bipush 10, 2) := by decide +kernel
theorem dX7_count_135 : decode cX7_count 135 = .ok (.isub, 1) := by decide +kernel
theorem dX7_count_136 : decode cX7_count 136 = .ok (.iaload, 1) := by decide +kernel
theorem dX7_count_137 : decode cX7_count 137 = .ok (.goto 5, 3) := by decide +kernel
theorem dX7_count_140 : decode cX7_count 140 = .ok (.bipush (-9), 2) := by decide +kernel
theorem dX7_count_142 : decode cX7_count 142 = .ok (.ireturn, 1) := by decide +kernel
theorem dJ11_isValidCodePoint_9a6ad_0 : decode cJ11_isValidCodePoint_9a6ad 0 = .ok (.iload_n 0, 1) := by decide +kernel
theorem dJ11_isValidCodePoint_9a6ad_1 : decode cJ11_isValidCodePoint_9a6ad 1 = .ok (.bipush 16, 2) := by decide +kernel
theorem dJ11_isValidCodePoint_9a6ad_3 : decode cJ11_isValidCodePoint_9a6ad 3 = .ok (.iushr, 1) := by decide +kernel
theorem dJ11_isValidCodePoint_9a6ad_4 : decode cJ11_isValidCodePoint_9a6ad 4 = .ok (.istore_n 1, 1) := by decide +kernel
theorem dJ11_isValidCodePoint_9a6ad_5 : decode cJ11_isValidCodePoint_9a6ad 5 = .ok (.iload_n 1, 1) := by decide +kernel
theorem dJ11_isValidCodePoint_9a6ad_6 : decode cJ11_isValidCodePoint_9a6ad 6 = .ok (.bipush 17, 2) := by decide +kernel
theorem dJ11_isValidCodePoint_9a6ad_8 : decode cJ11_isValidCodePoint_9a6ad 8 = .ok (.if_icmp .ge 7, 3) := by decide +kernel
theorem dJ11_isValidCodePoint_9a6ad_11 : decode cJ11_isValidCodePoint_9a6ad 11 = .ok (.iconst 1, 1) := by decide +kernel
theorem dJ11_isValidCodePoint_9a6ad_12 : decode cJ11_isValidCodePoint_9a6ad 12 = .ok (.goto 4, 3) := by decide +kernel
theorem dJ11_isValidCodePoint_9a6ad_15 : decode cJ11_isValidCodePoint_9a6ad 15 = .ok (.iconst 0, 1) := by decide +kernel
theorem dJ11_isValidCodePoint_9a6ad_16 : decode cJ11_isValidCodePoint_9a6ad 16 = .ok (.ireturn, 1) := by decide +kernel
theorem dJ11_highSurrogate_5068e_0 : decode cJ11_highSurrogate_5068e 0 = .ok (.iload_n 0, 1) := by decide +kernel
theorem dJ11_highSurrogate_5068e_1 : decode cJ11_highSurrogate_5068e 1 = .ok (.bipush 10, 2) := by decide +kernel
theorem dJ11_highSurrogate_5068e_3 : decode cJ11_highSurrogate_5068e 3 = .ok (.iushr, 1) := by decide +kernel
theorem dJ11_highSurrogate_5068e_4 : decode cJ11_highSurrogate_5068e 4 = .ok (.ldc 110, 2) := by decide +kernel
theorem dJ11_highSurrogate_5068e_6 : decode cJ11_highSurrogate_5068e 6 = .ok (.iadd, 1) := by decide +kernel
theorem dJ11_highSurrogate_5068e_7 : decode cJ11_highSurrogate_5068e 7 = .ok (.i2c, 1) := by decide +kernel
theorem dJ11_highSurrogate_5068e_8 : decode cJ11_highSurrogate_5068e 8 = .ok (.ireturn, 1) := by decide +kernel
theorem dJ11_lowSurrogate_5068e_0 : decode cJ11_lowSurrogate_5068e 0 = .ok (.iload_n 0, 1) := by decide +kernel
theorem dJ11_lowSurrogate_5068e_1 : decode cJ11_lowSurrogate_5068e 1 = .ok (.sipush 1023, 3) := by decide +kernel
theorem dJ11_lowSurrogate_5068e_4 : decode cJ11_lowSurrogate_5068e 4 = .ok (.iand, 1) := by decide +kernel
theorem dJ11_lowSurrogate_5068e_5 : decode cJ11_lowSurrogate_5068e 5 = .ok (.ldc 76, 2) := by decide +kernel
theorem dJ11_lowSurrogate_5068e_7 : decode cJ11_lowSurrogate_5068e 7 = .ok (.iadd, 1) := by decide +kernel
theorem dJ11_lowSurrogate_5068e_8 : decode cJ11_lowSurrogate_5068e 8 = .ok (.i2c, 1) := by decide +kernel
theorem dJ11_lowSurrogate_5068e_9 : decode cJ11_lowSurrogate_5068e 9 = .ok (.ireturn, 1) := by decide +kernel
theorem dJ9_abs_0f7a4_0 : decode cJ9_abs_0f7a4 0 = .ok (.iload_n 0, 1) := by decide +kernel
theorem dJ9_abs_0f7a4_1 : decode cJ9_abs_0f7a4 1 = .ok (.ifCond .ge 8, 3) := by decide +kernel
theorem dJ9_abs_0f7a4_4 : decode cJ9_abs_0f7a4 4 = .ok (.iload_n 0, 1) := by decide +kernel
theorem dJ9_abs_0f7a4_5 : decode cJ9_abs_0f7a4 5 = .ok (.ineg, 1) := by decide +kernel
theorem dJ9_abs_0f7a4_6 : decode cJ9_abs_0f7a4 6 = .ok (.goto 4, 3) := by decide +kernel
theorem dJ9_abs_0f7a4_9 : decode cJ9_abs_0f7a4 9 = .ok (.iload_n 0, 1) := by decide +kernel
theorem dJ9_abs_0f7a4_10 : decode cJ9_abs_0f7a4 10 = .ok (.ireturn, 1) := by decide +kernel
theorem dJ9_max_7cf53_0 : decode cJ9_max_7cf53 0 = .ok (.iload_n 0, 1) := by decide +kernel
theorem dJ9_max_7cf53_1 : decode cJ9_max_7cf53 1 = .ok (.iload_n 1, 1) := by decide +kernel
theorem dJ9_max_7cf53_2 : decode cJ9_max_7cf53 2 = .ok (.if_icmp .lt 7, 3) := by decide +kernel
theorem dJ9_max_7cf53_5 : decode cJ9_max_7cf53 5 = .ok (.iload_n 0, 1) := by decide +kernel
theorem dJ9_max_7cf53_6 : decode cJ9_max_7cf53 6 = .ok (.goto 4, 3) := by decide +kernel
theorem dJ9_max_7cf53_9 : decode cJ9_max_7cf53 9 = .ok (.iload_n 1, 1) := by decide +kernel
theorem dJ9_max_7cf53_10 : decode cJ9_max_7cf53 10 = .ok (.ireturn, 1) := by decide +kernel
theorem dJ9_min_7cf53_0 : decode cJ9_min_7cf53 0 = .ok (.iload_n 0, 1) := by decide +kernel
theorem dJ9_min_7cf53_1 : decode cJ9_min_7cf53 1 = .ok (.iload_n 1, 1) := by decide +kernel
theorem dJ9_min_7cf53_2 : decode cJ9_min_7cf53 2 = .ok (.if_icmp .gt 7, 3) := by decide +kernel
theorem dJ9_min_7cf53_5 : decode cJ9_min_7cf53 5 = .ok (.iload_n 0, 1) := by decide +kernel
theorem dJ9_min_7cf53_6 : decode cJ9_min_7cf53 6 = .ok (.goto 4, 3) := by decide +kernel
theorem dJ9_min_7cf53_9 : decode cJ9_min_7cf53 9 = .ok (.iload_n 1, 1) := by decide +kernel
theorem dJ9_min_7cf53_10 : decode cJ9_min_7cf53 10 = .ok (.ireturn, 1) := by decide +kernel
theorem dJ0_length_8abf5_0 : decode cJ0_length_8abf5 0 = .ok (.aload_n 0, 1) := by decide +kernel
theorem dJ0_length_8abf5_1 : decode cJ0_length_8abf5 1 = .ok (.getfield 9, 3) := by decide +kernel
theorem dJ0_length_8abf5_4 : decode cJ0_length_8abf5 4 = .ok (.arraylength, 1) := by decide +kernel
theorem dJ0_length_8abf5_5 : decode cJ0_length_8abf5 5 = .ok (.aload_n 0, 1) := by decide +kernel
theorem dJ0_length_8abf5_6 : decode cJ0_length_8abf5 6 = .ok (.invokevirtual 335, 3) := by decide +kernel
theorem dJ0_length_8abf5_9 : decode cJ0_length_8abf5 9 = .ok (.ishr, 1) := by decide +kernel
theorem dJ0_length_8abf5_10 : decode cJ0_length_8abf5 10 = .ok (.ireturn, 1) := by decide +kernel
theorem dJ0_indexOf_0f7a4_0 : decode cJ0_indexOf_0f7a4 0 = .ok (.aload_n 0, 1) := by decide +kernel
theorem dJ0_indexOf_0f7a4_1 : decode cJ0_indexOf_0f7a4 1 = .ok (.iload_n 1, 1) := by decide +kernel
theorem dJ0_indexOf_0f7a4_2 : decode cJ0_indexOf_0f7a4 2 = .ok (.iconst 0, 1) := by decide +kernel
theorem dJ0_indexOf_0f7a4_3 : decode cJ0_indexOf_0f7a4 3 = .ok (.invokevirtual 633, 3) := by decide +kernel
theorem dJ0_indexOf_0f7a4_6 : decode cJ0_indexOf_0f7a4 6 = .ok (.ireturn, 1) := by decide +kernel
theorem dJ0_indexOf_7cf53_0 : decode cJ0_indexOf_7cf53 0 = .ok (.aload_n 0, 1) := by decide +kernel
theorem dJ0_indexOf_7cf53_1 : decode cJ0_indexOf_7cf53 1 = .ok (.invokevirtual 492, 3) := by decide +kernel
theorem dJ0_indexOf_7cf53_4 : decode cJ0_indexOf_7cf53 4 = .ok (.ifCond .eq 19, 3) := by decide +kernel
theorem dJ0_indexOf_7cf53_7 : decode cJ0_indexOf_7cf53 7 = .ok (.aload_n 0, 1) := by decide +kernel
theorem dJ0_indexOf_7cf53_8 : decode cJ0_indexOf_7cf53 8 = .ok (.getfield 9, 3) := by decide +kernel
theorem dJ0_indexOf_7cf53_11 : decode cJ0_indexOf_7cf53 11 = .ok (.iload_n 1, 1) := by decide +kernel
theorem dJ0_indexOf_7cf53_12 : decode cJ0_indexOf_7cf53 12 = .ok (.iload_n 2, 1) := by decide +kernel
theorem dJ0_indexOf_7cf53_13 : decode cJ0_indexOf_7cf53 13 = .ok (.aload_n 0, 1) := by decide +kernel
theorem dJ0_indexOf_7cf53_14 : decode cJ0_indexOf_7cf53 14 = .ok (.invokevirtual 505, 3) := by decide +kernel
theorem dJ0_indexOf_7cf53_17 : decode cJ0_indexOf_7cf53 17 = .ok (.invokestatic 637, 3) := by decide +kernel
theorem dJ0_indexOf_7cf53_20 : decode cJ0_indexOf_7cf53 20 = .ok (.goto 16, 3) := by decide +kernel
theorem dJ0_indexOf_7cf53_23 : decode cJ0_indexOf_7cf53 23 = .ok (.aload_n 0, 1) := by decide +kernel
theorem dJ0_indexOf_7cf53_24 : decode cJ0_indexOf_7cf53 24 = .ok (.getfield 9, 3) := by decide +kernel
theorem dJ0_indexOf_7cf53_27 : decode cJ0_indexOf_7cf53 27 = .ok (.iload_n 1, 1) := by decide +kernel
theorem dJ0_indexOf_7cf53_28 : decode cJ0_indexOf_7cf53 28 = .ok (.iload_n 2, 1) := by decide +kernel
theorem dJ0_indexOf_7cf53_29 : decode cJ0_indexOf_7cf53 29 = .ok (.aload_n 0, 1) := by decide +kernel
theorem dJ0_indexOf_7cf53_30 : decode cJ0_indexOf_7cf53 30 = .ok (.invokevirtual 505, 3) := by decide +kernel
theorem dJ0_indexOf_7cf53_33 : decode cJ0_indexOf_7cf53 33 = .ok (.invokestatic 640, 3) := by decide +kernel
theorem dJ0_indexOf_7cf53_36 : decode cJ0_indexOf_7cf53 36 = .ok (.ireturn, 1) := by decide +kernel
theorem dJ0_coder_7d493_0 : decode cJ0_coder_7d493 0 = .ok (.getstatic 38, 3) := by decide +kernel
theorem dJ0_coder_7d493_3 : decode cJ0_coder_7d493 3 = .ok (.ifCond .eq 10, 3) := by decide +kernel
theorem dJ0_coder_7d493_6 : decode cJ0_coder_7d493 6 = .ok (.aload_n 0, 1) := by decide +kernel
theorem dJ0_coder_7d493_7 : decode cJ0_coder_7d493 7 = .ok (.getfield 15, 3) := by decide +kernel
theorem dJ0_coder_7d493_10 : decode cJ0_coder_7d493 10 = .ok (.goto 4, 3) := by decide +kernel
theorem dJ0_coder_7d493_13 : decode cJ0_coder_7d493 13 = .ok (.iconst 1, 1) := by decide +kernel
theorem dJ0_coder_7d493_14 : decode cJ0_coder_7d493 14 = .ok (.ireturn, 1) := by decide +kernel
theorem dJ0_isLatin1_aae02_0 : decode cJ0_isLatin1_aae02 0 = .ok (.getstatic 38, 3) := by decide +kernel
theorem dJ0_isLatin1_aae02_3 : decode cJ0_isLatin1_aae02 3 = .ok (.ifCond .eq 14, 3) := by decide +kernel
theorem dJ0_isLatin1_aae02_6 : decode cJ0_isLatin1_aae02 6 = .ok (.aload_n 0, 1) := by decide +kernel
theorem dJ0_isLatin1_aae02_7 : decode cJ0_isLatin1_aae02 7 = .ok (.getfield 15, 3) := by decide +kernel
theorem dJ0_isLatin1_aae02_10 : decode cJ0_isLatin1_aae02 10 = .ok (.ifCond .ne 7, 3) := by decide +kernel
theorem dJ0_isLatin1_aae02_13 : decode cJ0_isLatin1_aae02 13 = .ok (.iconst 1, 1) := by decide +kernel
theorem dJ0_isLatin1_aae02_14 : decode cJ0_isLatin1_aae02 14 = .ok (.goto 4, 3) := by decide +kernel
theorem dJ0_isLatin1_aae02_17 : decode cJ0_isLatin1_aae02 17 = .ok (.iconst 0, 1) := by decide +kernel
theorem dJ0_isLatin1_aae02_18 : decode cJ0_isLatin1_aae02 18 = .ok (.ireturn, 1) := by decide +kernel
theorem dJ0_checkBoundsBeginEnd_23922_0 : decode cJ0_checkBoundsBeginEnd_23922 0 = .ok (.iload_n 0, 1) := by decide +kernel
theorem dJ0_checkBoundsBeginEnd_23922_1 : decode cJ0_checkBoundsBeginEnd_23922 1 = .ok (.iload_n 1, 1) := by decide +kernel
theorem dJ0_checkBoundsBeginEnd_23922_2 : decode cJ0_checkBoundsBeginEnd_23922 2 = .ok (.iload_n 2, 1) := by decide +kernel
theorem dJ0_checkBoundsBeginEnd_23922_3 : decode cJ0_checkBoundsBeginEnd_23922 3 = .ok (.getstatic 1053, 3) := by decide +kernel
theorem dJ0_checkBoundsBeginEnd_23922_6 : decode cJ0_checkBoundsBeginEnd_23922 6 = .ok (.invokestatic 1062, 3) := by decide +kernel
theorem dJ0_checkBoundsBeginEnd_23922_9 : decode cJ0_checkBoundsBeginEnd_23922 9 = .ok (.pop, 1) := by decide +kernel
theorem dJ0_checkBoundsBeginEnd_23922_10 : decode cJ0_checkBoundsBeginEnd_23922 10 = .ok (.return_, 1) := by decide +kernel
theorem dJ1_canEncode_9a6ad_0 : decode cJ1_canEncode_9a6ad 0 = .ok (.iload_n 0, 1) := by decide +kernel
theorem dJ1_canEncode_9a6ad_1 : decode cJ1_canEncode_9a6ad 1 = .ok (.ifCond .lt 14, 3) := by decide +kernel
theorem dJ1_canEncode_9a6ad_4 : decode cJ1_canEncode_9a6ad 4 = .ok (.iload_n 0, 1) := by decide +kernel
theorem dJ1_canEncode_9a6ad_5 : decode cJ1_canEncode_9a6ad 5 = .ok (.sipush 255, 3) := by decide +kernel
theorem dJ1_canEncode_9a6ad_8 : decode cJ1_canEncode_9a6ad 8 = .ok (.if_icmp .gt 7, 3) := by decide +kernel
theorem dJ1_canEncode_9a6ad_11 : decode cJ1_canEncode_9a6ad 11 = .ok (.iconst 1, 1) := by decide +kernel
theorem dJ1_canEncode_9a6ad_12 : decode cJ1_canEncode_9a6ad 12 = .ok (.goto 4, 3) := by decide +kernel
theorem dJ1_canEncode_9a6ad_15 : decode cJ1_canEncode_9a6ad 15 = .ok (.iconst 0, 1) := by decide +kernel
theorem dJ1_canEncode_9a6ad_16 : decode cJ1_canEncode_9a6ad 16 = .ok (.ireturn, 1) := by decide +kernel
theorem dJ1_indexOf_4cfef_0 : decode cJ1_indexOf_4cfef 0 = .ok (.iload_n 1, 1) := by decide +kernel
theorem dJ1_indexOf_4cfef_1 : decode cJ1_indexOf_4cfef 1 = .ok (.invokestatic 88, 3) := by decide +kernel
theorem dJ1_indexOf_4cfef_4 : decode cJ1_indexOf_4cfef 4 = .ok (.ifCond .ne 5, 3) := by decide +kernel
theorem dJ1_indexOf_4cfef_7 : decode cJ1_indexOf_4cfef 7 = .ok (.iconst (-1), 1) := by decide +kernel
theorem dJ1_indexOf_4cfef_8 : decode cJ1_indexOf_4cfef 8 = .ok (.ireturn, 1) := by decide +kernel
theorem dJ1_indexOf_4cfef_9 : decode cJ1_indexOf_4cfef 9 = .ok (.iload_n 2, 1) := by decide +kernel
theorem dJ1_indexOf_4cfef_10 : decode cJ1_indexOf_4cfef 10 = .ok (.iconst 0, 1) := by decide +kernel
theorem dJ1_indexOf_4cfef_11 : decode cJ1_indexOf_4cfef 11 = .ok (.invokestatic 92, 3) := by decide +kernel
theorem dJ1_indexOf_4cfef_14 : decode cJ1_indexOf_4cfef 14 = .ok (.istore_n 2, 1) := by decide +kernel
theorem dJ1_indexOf_4cfef_15 : decode cJ1_indexOf_4cfef 15 = .ok (.iload_n 3, 1) := by decide +kernel
theorem dJ1_indexOf_4cfef_16 : decode cJ1_indexOf_4cfef 16 = .ok (.aload_n 0, 1) := by decide +kernel
theorem dJ1_indexOf_4cfef_17 : decode cJ1_indexOf_4cfef 17 = .ok (.arraylength, 1) := by decide +kernel
theorem dJ1_indexOf_4cfef_18 : decode cJ1_indexOf_4cfef 18 = .ok (.invokestatic 38, 3) := by decide +kernel
theorem dJ1_indexOf_4cfef_21 : decode cJ1_indexOf_4cfef 21 = .ok (.istore_n 3, 1) := by decide +kernel
theorem dJ1_indexOf_4cfef_22 : decode cJ1_indexOf_4cfef 22 = .ok (.iload_n 2, 1) := by decide +kernel
theorem dJ1_indexOf_4cfef_23 : decode cJ1_indexOf_4cfef 23 = .ok (.iload_n 3, 1) := by decide +kernel
theorem dJ1_indexOf_4cfef_24 : decode cJ1_indexOf_4cfef 24 = .ok (.if_icmp .lt 5, 3) := by decide +kernel
theorem dJ1_indexOf_4cfef_27 : decode cJ1_indexOf_4cfef 27 = .ok (.iconst (-1), 1) := by decide +kernel
theorem dJ1_indexOf_4cfef_28 : decode cJ1_indexOf_4cfef 28 = .ok (.ireturn, 1) := by decide +kernel
theorem dJ1_indexOf_4cfef_29 : decode cJ1_indexOf_4cfef 29 = .ok (.aload_n 0, 1) := by decide +kernel
theorem dJ1_indexOf_4cfef_30 : decode cJ1_indexOf_4cfef 30 = .ok (.iload_n 1, 1) := by decide +kernel
theorem dJ1_indexOf_4cfef_31 : decode cJ1_indexOf_4cfef 31 = .ok (.iload_n 2, 1) := by decide +kernel
theorem dJ1_indexOf_4cfef_32 : decode cJ1_indexOf_4cfef 32 = .ok (.iload_n 3, 1) := by decide +kernel
theorem dJ1_indexOf_4cfef_33 : decode cJ1_indexOf_4cfef 33 = .ok (.invokestatic 95, 3) := by decide +kernel
theorem dJ1_indexOf_4cfef_36 : decode cJ1_indexOf_4cfef 36 = .ok (.ireturn, 1) := by decide +kernel
theorem dJ1_indexOfChar_4cfef_0 : decode cJ1_indexOfChar_4cfef 0 = .ok (.iload_n 1, 1) := by decide +kernel
theorem dJ1_indexOfChar_4cfef_1 : decode cJ1_indexOfChar_4cfef 1 = .ok (.i2b, 1) := by decide +kernel
theorem dJ1_indexOfChar_4cfef_2 : decode cJ1_indexOfChar_4cfef 2 = .ok (.istore 4, 2) := by decide +kernel
theorem dJ1_indexOfChar_4cfef_4 : decode cJ1_indexOfChar_4cfef 4 = .ok (.iload_n 2, 1) := by decide +kernel
theorem dJ1_indexOfChar_4cfef_5 : decode cJ1_indexOfChar_4cfef 5 = .ok (.istore 5, 2) := by decide +kernel
theorem dJ1_indexOfChar_4cfef_7 : decode cJ1_indexOfChar_4cfef 7 = .ok (.iload 5, 2) := by decide +kernel
theorem dJ1_indexOfChar_4cfef_9 : decode cJ1_indexOfChar_4cfef 9 = .ok (.iload_n 3, 1) := by decide +kernel
theorem dJ1_indexOfChar_4cfef_10 : decode cJ1_indexOfChar_4cfef 10 = .ok (.if_icmp .ge 21, 3) := by decide +kernel
theorem dJ1_indexOfChar_4cfef_13 : decode cJ1_indexOfChar_4cfef 13 = .ok (.aload_n 0, 1) := by decide +kernel
theorem dJ1_indexOfChar_4cfef_14 : decode cJ1_indexOfChar_4cfef 14 = .ok (.iload 5, 2) := by decide +kernel
theorem dJ1_indexOfChar_4cfef_16 : decode cJ1_indexOfChar_4cfef 16 = .ok (.baload, 1) := by decide +kernel
theorem dJ1_indexOfChar_4cfef_17 : decode cJ1_indexOfChar_4cfef 17 = .ok (.iload 4, 2) := by decide +kernel
theorem dJ1_indexOfChar_4cfef_19 : decode cJ1_indexOfChar_4cfef 19 = .ok (.if_icmp .ne 6, 3) := by decide +kernel
theorem dJ1_indexOfChar_4cfef_22 : decode cJ1_indexOfChar_4cfef 22 = .ok (.iload 5, 2) := by decide +kernel
theorem dJ1_indexOfChar_4cfef_24 : decode cJ1_indexOfChar_4cfef 24 = .ok (.ireturn, 1) := by decide +kernel
theorem dJ1_indexOfChar_4cfef_25 : decode cJ1_indexOfChar_4cfef 25 = .ok (.iinc 5 1, 3) := by decide +kernel
theorem dJ1_indexOfChar_4cfef_28 : decode cJ1_indexOfChar_4cfef 28 = .ok (.goto (-21), 3) := by decide +kernel
theorem dJ1_indexOfChar_4cfef_31 : decode cJ1_indexOfChar_4cfef 31 = .ok (.iconst (-1), 1) := by decide +kernel
theorem dJ1_indexOfChar_4cfef_32 : decode cJ1_indexOfChar_4cfef 32 = .ok (.ireturn, 1) := by decide +kernel
theorem dJ2_getChar_3b067_0 : decode cJ2_getChar_3b067 0 = .ok (.getstatic 44, 3) := by decide +kernel
theorem dJ2_getChar_3b067_3 : decode cJ2_getChar_3b067 3 = .ok (.ifCond .ne 25, 3) := by decide +kernel
theorem dJ2_getChar_3b067_6 : decode cJ2_getChar_3b067 6 = .ok (.iload_n 1, 1) := by decide +kernel
theorem dJ2_getChar_3b067_7 : decode cJ2_getChar_3b067 7 = .ok (.ifCond .lt 11, 3) := by decide +kernel
theorem dJ2_getChar_3b067_10 : decode cJ2_getChar_3b067 10 = .ok (.iload_n 1, 1) := by decide +kernel
theorem dJ2_getChar_3b067_11 : decode cJ2_getChar_3b067 11 = .ok (.aload_n 0, 1) := by decide +kernel
theorem dJ2_getChar_3b067_12 : decode cJ2_getChar_3b067 12 = .ok (.invokestatic 48, 3) := by decide +kernel
theorem dJ2_getChar_3b067_15 : decode cJ2_getChar_3b067 15 = .ok (.if_icmp .lt 13, 3) := by decide +kernel
theorem dJ2_getChar_3b067_18 : decode cJ2_getChar_3b067 18 = .ok (.new 52, 3) := by decide +kernel
theorem dJ2_getChar_3b067_21 : decode cJ2_getChar_3b067 21 = .ok (.dup, 1) := by decide +kernel
theorem dJ2_getChar_3b067_22 : decode cJ2_getChar_3b067 22 = .ok (.ldc 54, 2) := by decide +kernel
theorem dJ2_getChar_3b067_24 : decode cJ2_getChar_3b067 24 = .ok (.invokespecial 56, 3) := by decide +kernel
theorem dJ2_getChar_3b067_27 : decode cJ2_getChar_3b067 27 = .ok (.athrow, 1) := by decide +kernel
theorem dJ2_getChar_3b067_28 : decode cJ2_getChar_3b067 28 = .ok (.iload_n 1, 1) := by decide +kernel
theorem dJ2_getChar_3b067_29 : decode cJ2_getChar_3b067 29 = .ok (.iconst 1, 1) := by decide +kernel
theorem dJ2_getChar_3b067_30 : decode cJ2_getChar_3b067 30 = .ok (.ishl, 1) := by decide +kernel
theorem dJ2_getChar_3b067_31 : decode cJ2_getChar_3b067 31 = .ok (.istore_n 1, 1) := by decide +kernel
theorem dJ2_getChar_3b067_32 : decode cJ2_getChar_3b067 32 = .ok (.aload_n 0, 1) := by decide +kernel
theorem dJ2_getChar_3b067_33 : decode cJ2_getChar_3b067 33 = .ok (.iload_n 1, 1) := by decide +kernel
theorem dJ2_getChar_3b067_34 : decode cJ2_getChar_3b067 34 = .ok (.iinc 1 1, 3) := by decide +kernel
theorem dJ2_getChar_3b067_37 : decode cJ2_getChar_3b067 37 = .ok (.baload, 1) := by decide +kernel
theorem dJ2_getChar_3b067_38 : decode cJ2_getChar_3b067 38 = .ok (.sipush 255, 3) := by decide +kernel
theorem dJ2_getChar_3b067_41 : decode cJ2_getChar_3b067 41 = .ok (.iand, 1) := by decide +kernel
theorem dJ2_getChar_3b067_42 : decode cJ2_getChar_3b067 42 = .ok (.getstatic 59, 3) := by decide +kernel
theorem dJ2_getChar_3b067_45 : decode cJ2_getChar_3b067 45 = .ok (.ishl, 1) := by decide +kernel
theorem dJ2_getChar_3b067_46 : decode cJ2_getChar_3b067 46 = .ok (.aload_n 0, 1) := by decide +kernel
theorem dJ2_getChar_3b067_47 : decode cJ2_getChar_3b067 47 = .ok (.iload_n 1, 1) := by decide +kernel
theorem dJ2_getChar_3b067_48 : decode cJ2_getChar_3b067 48 = .ok (.baload, 1) := by decide +kernel
theorem dJ2_getChar_3b067_49 : decode cJ2_getChar_3b067 49 = .ok (.sipush 255, 3) := by decide +kernel
theorem dJ2_getChar_3b067_52 : decode cJ2_getChar_3b067 52 = .ok (.iand, 1) := by decide +kernel
theorem dJ2_getChar_3b067_53 : decode cJ2_getChar_3b067 53 = .ok (.getstatic 63, 3) := by decide +kernel
theorem dJ2_getChar_3b067_56 : decode cJ2_getChar_3b067 56 = .ok (.ishl, 1) := by decide +kernel
theorem dJ2_getChar_3b067_57 : decode cJ2_getChar_3b067 57 = .ok (.ior, 1) := by decide +kernel
theorem dJ2_getChar_3b067_58 : decode cJ2_getChar_3b067 58 = .ok (.i2c, 1) := by decide +kernel
theorem dJ2_getChar_3b067_59 : decode cJ2_getChar_3b067 59 = .ok (.ireturn, 1) := by decide +kernel
theorem dJ2_length_9d52b_0 : decode cJ2_length_9d52b 0 = .ok (.aload_n 0, 1) := by decide +kernel
theorem dJ2_length_9d52b_1 : decode cJ2_length_9d52b 1 = .ok (.arraylength, 1) := by decide +kernel
theorem dJ2_length_9d52b_2 : decode cJ2_length_9d52b 2 = .ok (.iconst 1, 1) := by decide +kernel
theorem dJ2_length_9d52b_3 : decode cJ2_length_9d52b 3 = .ok (.ishr, 1) := by decide +kernel
theorem dJ2_length_9d52b_4 : decode cJ2_length_9d52b 4 = .ok (.ireturn, 1) := by decide +kernel
theorem dJ2_indexOf_4cfef_0 : decode cJ2_indexOf_4cfef 0 = .ok (.iload_n 2, 1) := by decide +kernel
theorem dJ2_indexOf_4cfef_1 : decode cJ2_indexOf_4cfef 1 = .ok (.iconst 0, 1) := by decide +kernel
theorem dJ2_indexOf_4cfef_2 : decode cJ2_indexOf_4cfef 2 = .ok (.invokestatic 224, 3) := by decide +kernel
theorem dJ2_indexOf_4cfef_5 : decode cJ2_indexOf_4cfef 5 = .ok (.istore_n 2, 1) := by decide +kernel
theorem dJ2_indexOf_4cfef_6 : decode cJ2_indexOf_4cfef 6 = .ok (.iload_n 3, 1) := by decide +kernel
theorem dJ2_indexOf_4cfef_7 : decode cJ2_indexOf_4cfef 7 = .ok (.aload_n 0, 1) := by decide +kernel
theorem dJ2_indexOf_4cfef_8 : decode cJ2_indexOf_4cfef 8 = .ok (.arraylength, 1) := by decide +kernel
theorem dJ2_indexOf_4cfef_9 : decode cJ2_indexOf_4cfef 9 = .ok (.iconst 1, 1) := by decide +kernel
theorem dJ2_indexOf_4cfef_10 : decode cJ2_indexOf_4cfef 10 = .ok (.ishr, 1) := by decide +kernel
theorem dJ2_indexOf_4cfef_11 : decode cJ2_indexOf_4cfef 11 = .ok (.invokestatic 183, 3) := by decide +kernel
theorem dJ2_indexOf_4cfef_14 : decode cJ2_indexOf_4cfef 14 = .ok (.istore_n 3, 1) := by decide +kernel
theorem dJ2_indexOf_4cfef_15 : decode cJ2_indexOf_4cfef 15 = .ok (.iload_n 2, 1) := by decide +kernel
theorem dJ2_indexOf_4cfef_16 : decode cJ2_indexOf_4cfef 16 = .ok (.iload_n 3, 1) := by decide +kernel
theorem dJ2_indexOf_4cfef_17 : decode cJ2_indexOf_4cfef 17 = .ok (.if_icmp .lt 5, 3) := by decide +kernel
theorem dJ2_indexOf_4cfef_20 : decode cJ2_indexOf_4cfef 20 = .ok (.iconst (-1), 1) := by decide +kernel
theorem dJ2_indexOf_4cfef_21 : decode cJ2_indexOf_4cfef 21 = .ok (.ireturn, 1) := by decide +kernel
theorem dJ2_indexOf_4cfef_22 : decode cJ2_indexOf_4cfef 22 = .ok (.iload_n 1, 1) := by decide +kernel
theorem dJ2_indexOf_4cfef_23 : decode cJ2_indexOf_4cfef 23 = .ok (.ldc 227, 2) := by decide +kernel
theorem dJ2_indexOf_4cfef_25 : decode cJ2_indexOf_4cfef 25 = .ok (.if_icmp .ge 11, 3) := by decide +kernel
theorem dJ2_indexOf_4cfef_28 : decode cJ2_indexOf_4cfef 28 = .ok (.aload_n 0, 1) := by decide +kernel
theorem dJ2_indexOf_4cfef_29 : decode cJ2_indexOf_4cfef 29 = .ok (.iload_n 1, 1) := by decide +kernel
theorem dJ2_indexOf_4cfef_30 : decode cJ2_indexOf_4cfef 30 = .ok (.iload_n 2, 1) := by decide +kernel
theorem dJ2_indexOf_4cfef_31 : decode cJ2_indexOf_4cfef 31 = .ok (.iload_n 3, 1) := by decide +kernel
theorem dJ2_indexOf_4cfef_32 : decode cJ2_indexOf_4cfef 32 = .ok (.invokestatic 228, 3) := by decide +kernel
theorem dJ2_indexOf_4cfef_35 : decode cJ2_indexOf_4cfef 35 = .ok (.ireturn, 1) := by decide +kernel
theorem dJ2_indexOf_4cfef_36 : decode cJ2_indexOf_4cfef 36 = .ok (.aload_n 0, 1) := by decide +kernel
theorem dJ2_indexOf_4cfef_37 : decode cJ2_indexOf_4cfef 37 = .ok (.iload_n 1, 1) := by decide +kernel
theorem dJ2_indexOf_4cfef_38 : decode cJ2_indexOf_4cfef 38 = .ok (.iload_n 2, 1) := by decide +kernel
theorem dJ2_indexOf_4cfef_39 : decode cJ2_indexOf_4cfef 39 = .ok (.iload_n 3, 1) := by decide +kernel
theorem dJ2_indexOf_4cfef_40 : decode cJ2_indexOf_4cfef 40 = .ok (.invokestatic 232, 3) := by decide +kernel
theorem dJ2_indexOf_4cfef_43 : decode cJ2_indexOf_4cfef 43 = .ok (.ireturn, 1) := by decide +kernel
theorem dJ2_indexOfChar_4cfef_0 : decode cJ2_indexOfChar_4cfef 0 = .ok (.iload_n 2, 1) := by decide +kernel
theorem dJ2_indexOfChar_4cfef_1 : decode cJ2_indexOfChar_4cfef 1 = .ok (.iload_n 3, 1) := by decide +kernel
theorem dJ2_indexOfChar_4cfef_2 : decode cJ2_indexOfChar_4cfef 2 = .ok (.aload_n 0, 1) := by decide +kernel
theorem dJ2_indexOfChar_4cfef_3 : decode cJ2_indexOfChar_4cfef 3 = .ok (.invokestatic 96, 3) := by decide +kernel
theorem dJ2_indexOfChar_4cfef_6 : decode cJ2_indexOfChar_4cfef 6 = .ok (.aload_n 0, 1) := by decide +kernel
theorem dJ2_indexOfChar_4cfef_7 : decode cJ2_indexOfChar_4cfef 7 = .ok (.iload_n 1, 1) := by decide +kernel
theorem dJ2_indexOfChar_4cfef_8 : decode cJ2_indexOfChar_4cfef 8 = .ok (.iload_n 2, 1) := by decide +kernel
theorem dJ2_indexOfChar_4cfef_9 : decode cJ2_indexOfChar_4cfef 9 = .ok (.iload_n 3, 1) := by decide +kernel
theorem dJ2_indexOfChar_4cfef_10 : decode cJ2_indexOfChar_4cfef 10 = .ok (.invokestatic 244, 3) := by decide +kernel
theorem dJ2_indexOfChar_4cfef_13 : decode cJ2_indexOfChar_4cfef 13 = .ok (.ireturn, 1) := by decide +kernel
theorem dJ2_indexOfCharUnsafe_4cfef_0 : decode cJ2_indexOfCharUnsafe_4cfef 0 = .ok (.iload_n 2, 1) := by decide +kernel
theorem dJ2_indexOfCharUnsafe_4cfef_1 : decode cJ2_indexOfCharUnsafe_4cfef 1 = .ok (.istore 4, 2) := by decide +kernel
theorem dJ2_indexOfCharUnsafe_4cfef_3 : decode cJ2_indexOfCharUnsafe_4cfef 3 = .ok (.iload 4, 2) := by decide +kernel
theorem dJ2_indexOfCharUnsafe_4cfef_5 : decode cJ2_indexOfCharUnsafe_4cfef 5 = .ok (.iload_n 3, 1) := by decide +kernel
theorem dJ2_indexOfCharUnsafe_4cfef_6 : decode cJ2_indexOfCharUnsafe_4cfef 6 = .ok (.if_icmp .ge 22, 3) := by decide +kernel
theorem dJ2_indexOfCharUnsafe_4cfef_9 : decode cJ2_indexOfCharUnsafe_4cfef 9 = .ok (.aload_n 0, 1) := by decide +kernel
theorem dJ2_indexOfCharUnsafe_4cfef_10 : decode cJ2_indexOfCharUnsafe_4cfef 10 = .ok (.iload 4, 2) := by decide +kernel
theorem dJ2_indexOfCharUnsafe_4cfef_12 : decode cJ2_indexOfCharUnsafe_4cfef 12 = .ok (.invokestatic 71, 3) := by decide +kernel
theorem dJ2_indexOfCharUnsafe_4cfef_15 : decode cJ2_indexOfCharUnsafe_4cfef 15 = .ok (.iload_n 1, 1) := by decide +kernel
theorem dJ2_indexOfCharUnsafe_4cfef_16 : decode cJ2_indexOfCharUnsafe_4cfef 16 = .ok (.if_icmp .ne 6, 3) := by decide +kernel
theorem dJ2_indexOfCharUnsafe_4cfef_19 : decode cJ2_indexOfCharUnsafe_4cfef 19 = .ok (.iload 4, 2) := by decide +kernel
theorem dJ2_indexOfCharUnsafe_4cfef_21 : decode cJ2_indexOfCharUnsafe_4cfef 21 = .ok (.ireturn, 1) := by decide +kernel
theorem dJ2_indexOfCharUnsafe_4cfef_22 : decode cJ2_indexOfCharUnsafe_4cfef 22 = .ok (.iinc 4 1, 3) := by decide +kernel
theorem dJ2_indexOfCharUnsafe_4cfef_25 : decode cJ2_indexOfCharUnsafe_4cfef 25 = .ok (.goto (-22), 3) := by decide +kernel
theorem dJ2_indexOfCharUnsafe_4cfef_28 : decode cJ2_indexOfCharUnsafe_4cfef 28 = .ok (.iconst (-1), 1) := by decide +kernel
theorem dJ2_indexOfCharUnsafe_4cfef_29 : decode cJ2_indexOfCharUnsafe_4cfef 29 = .ok (.ireturn, 1) := by decide +kernel
theorem dJ2_indexOfSupplementary_4cfef_0 : decode cJ2_indexOfSupplementary_4cfef 0 = .ok (.iload_n 1, 1) := by decide +kernel
theorem dJ2_indexOfSupplementary_4cfef_1 : decode cJ2_indexOfSupplementary_4cfef 1 = .ok (.invokestatic 164, 3) := by decide +kernel
theorem dJ2_indexOfSupplementary_4cfef_4 : decode cJ2_indexOfSupplementary_4cfef 4 = .ok (.ifCond .eq 65, 3) := by decide +kernel
theorem dJ2_indexOfSupplementary_4cfef_7 : decode cJ2_indexOfSupplementary_4cfef 7 = .ok (.iload_n 1, 1) := by decide +kernel
theorem dJ2_indexOfSupplementary_4cfef_8 : decode cJ2_indexOfSupplementary_4cfef 8 = .ok (.invokestatic 157, 3) := by decide +kernel
theorem dJ2_indexOfSupplementary_4cfef_11 : decode cJ2_indexOfSupplementary_4cfef 11 = .ok (.istore 4, 2) := by decide +kernel
theorem dJ2_indexOfSupplementary_4cfef_13 : decode cJ2_indexOfSupplementary_4cfef 13 = .ok (.iload_n 1, 1) := by decide +kernel
theorem dJ2_indexOfSupplementary_4cfef_14 : decode cJ2_indexOfSupplementary_4cfef 14 = .ok (.invokestatic 161, 3) := by decide +kernel
theorem dJ2_indexOfSupplementary_4cfef_17 : decode cJ2_indexOfSupplementary_4cfef 17 = .ok (.istore 5, 2) := by decide +kernel
theorem dJ2_indexOfSupplementary_4cfef_19 : decode cJ2_indexOfSupplementary_4cfef 19 = .ok (.iload_n 2, 1) := by decide +kernel
theorem dJ2_indexOfSupplementary_4cfef_20 : decode cJ2_indexOfSupplementary_4cfef 20 = .ok (.iload_n 3, 1) := by decide +kernel
theorem dJ2_indexOfSupplementary_4cfef_21 : decode cJ2_indexOfSupplementary_4cfef 21 = .ok (.aload_n 0, 1) := by decide +kernel
theorem dJ2_indexOfSupplementary_4cfef_22 : decode cJ2_indexOfSupplementary_4cfef 22 = .ok (.invokestatic 96, 3) := by decide +kernel
theorem dJ2_indexOfSupplementary_4cfef_25 : decode cJ2_indexOfSupplementary_4cfef 25 = .ok (.iload_n 2, 1) := by decide +kernel
theorem dJ2_indexOfSupplementary_4cfef_26 : decode cJ2_indexOfSupplementary_4cfef 26 = .ok (.istore 6, 2) := by decide +kernel
theorem dJ2_indexOfSupplementary_4cfef_28 : decode cJ2_indexOfSupplementary_4cfef 28 = .ok (.iload 6, 2) := by decide +kernel
theorem dJ2_indexOfSupplementary_4cfef_30 : decode cJ2_indexOfSupplementary_4cfef 30 = .ok (.iload_n 3, 1) := by decide +kernel
theorem dJ2_indexOfSupplementary_4cfef_31 : decode cJ2_indexOfSupplementary_4cfef 31 = .ok (.iconst 1, 1) := by decide +kernel
theorem dJ2_indexOfSupplementary_4cfef_32 : decode cJ2_indexOfSupplementary_4cfef 32 = .ok (.isub, 1) := by decide +kernel
theorem dJ2_indexOfSupplementary_4cfef_33 : decode cJ2_indexOfSupplementary_4cfef 33 = .ok (.if_icmp .ge 36, 3) := by decide +kernel
theorem dJ2_indexOfSupplementary_4cfef_36 : decode cJ2_indexOfSupplementary_4cfef 36 = .ok (.aload_n 0, 1) := by decide +kernel
theorem dJ2_indexOfSupplementary_4cfef_37 : decode cJ2_indexOfSupplementary_4cfef 37 = .ok (.iload 6, 2) := by decide +kernel
theorem dJ2_indexOfSupplementary_4cfef_39 : decode cJ2_indexOfSupplementary_4cfef 39 = .ok (.invokestatic 71, 3) := by decide +kernel
theorem dJ2_indexOfSupplementary_4cfef_42 : decode cJ2_indexOfSupplementary_4cfef 42 = .ok (.iload 4, 2) := by decide +kernel
theorem dJ2_indexOfSupplementary_4cfef_44 : decode cJ2_indexOfSupplementary_4cfef 44 = .ok (.if_icmp .ne 19, 3) := by decide +kernel
theorem dJ2_indexOfSupplementary_4cfef_47 : decode cJ2_indexOfSupplementary_4cfef 47 = .ok (.aload_n 0, 1) := by decide +kernel
theorem dJ2_indexOfSupplementary_4cfef_48 : decode cJ2_indexOfSupplementary_4cfef 48 = .ok (.iload 6, 2) := by decide +kernel
theorem dJ2_indexOfSupplementary_4cfef_50 : decode cJ2_indexOfSupplementary_4cfef 50 = .ok (.iconst 1, 1) := by decide +kernel
theorem dJ2_indexOfSupplementary_4cfef_51 : decode cJ2_indexOfSupplementary_4cfef 51 = .ok (.iadd, 1) := by decide +kernel
theorem dJ2_indexOfSupplementary_4cfef_52 : decode cJ2_indexOfSupplementary_4cfef 52 = .ok (.invokestatic 71, 3) := by decide +kernel
theorem dJ2_indexOfSupplementary_4cfef_55 : decode cJ2_indexOfSupplementary_4cfef 55 = .ok (.iload 5, 2) := by decide +kernel
theorem dJ2_indexOfSupplementary_4cfef_57 : decode cJ2_indexOfSupplementary_4cfef 57 = .ok (.if_icmp .ne 6, 3) := by decide +kernel
theorem dJ2_indexOfSupplementary_4cfef_60 : decode cJ2_indexOfSupplementary_4cfef 60 = .ok (.iload 6, 2) := by decide +kernel
theorem dJ2_indexOfSupplementary_4cfef_62 : decode cJ2_indexOfSupplementary_4cfef 62 = .ok (.ireturn, 1) := by decide +kernel
theorem dJ2_indexOfSupplementary_4cfef_63 : decode cJ2_indexOfSupplementary_4cfef 63 = .ok (.iinc 6 1, 3) := by decide +kernel
theorem dJ2_indexOfSupplementary_4cfef_66 : decode cJ2_indexOfSupplementary_4cfef 66 = .ok (.goto (-38), 3) := by decide +kernel
theorem dJ2_indexOfSupplementary_4cfef_69 : decode cJ2_indexOfSupplementary_4cfef 69 = .ok (.iconst (-1), 1) := by decide +kernel
theorem dJ2_indexOfSupplementary_4cfef_70 : decode cJ2_indexOfSupplementary_4cfef 70 = .ok (.ireturn, 1) := by decide +kernel
theorem dJ2_checkBoundsBeginEnd_d044e_0 : decode cJ2_checkBoundsBeginEnd_d044e 0 = .ok (.iload_n 0, 1) := by decide +kernel
theorem dJ2_checkBoundsBeginEnd_d044e_1 : decode cJ2_checkBoundsBeginEnd_d044e 1 = .ok (.iload_n 1, 1) := by decide +kernel
theorem dJ2_checkBoundsBeginEnd_d044e_2 : decode cJ2_checkBoundsBeginEnd_d044e 2 = .ok (.aload_n 2, 1) := by decide +kernel
theorem dJ2_checkBoundsBeginEnd_d044e_3 : decode cJ2_checkBoundsBeginEnd_d044e 3 = .ok (.invokestatic 48, 3) := by decide +kernel
theorem dJ2_checkBoundsBeginEnd_d044e_6 : decode cJ2_checkBoundsBeginEnd_d044e 6 = .ok (.invokestatic 241, 3) := by decide +kernel
theorem dJ2_checkBoundsBeginEnd_d044e_9 : decode cJ2_checkBoundsBeginEnd_d044e 9 = .ok (.return_, 1) := by decide +kernel
theorem dJ3_checkFromToIndex_8c36e_0 : decode cJ3_checkFromToIndex_8c36e 0 = .ok (.iload_n 0, 1) := by decide +kernel
theorem dJ3_checkFromToIndex_8c36e_1 : decode cJ3_checkFromToIndex_8c36e 1 = .ok (.ifCond .lt 13, 3) := by decide +kernel
theorem dJ3_checkFromToIndex_8c36e_4 : decode cJ3_checkFromToIndex_8c36e 4 = .ok (.iload_n 0, 1) := by decide +kernel
theorem dJ3_checkFromToIndex_8c36e_5 : decode cJ3_checkFromToIndex_8c36e 5 = .ok (.iload_n 1, 1) := by decide +kernel
theorem dJ3_checkFromToIndex_8c36e_6 : decode cJ3_checkFromToIndex_8c36e 6 = .ok (.if_icmp .gt 8, 3) := by decide +kernel
theorem dJ3_checkFromToIndex_8c36e_9 : decode cJ3_checkFromToIndex_8c36e 9 = .ok (.iload_n 1, 1) := by decide +kernel
theorem dJ3_checkFromToIndex_8c36e_10 : decode cJ3_checkFromToIndex_8c36e 10 = .ok (.iload_n 2, 1) := by decide +kernel
theorem dJ3_checkFromToIndex_8c36e_11 : decode cJ3_checkFromToIndex_8c36e 11 = .ok (.if_icmp .le 11, 3) := by decide +kernel
theorem dJ3_checkFromToIndex_8c36e_14 : decode cJ3_checkFromToIndex_8c36e 14 = .ok (.aload_n 3, 1) := by decide +kernel
theorem dJ3_checkFromToIndex_8c36e_15 : decode cJ3_checkFromToIndex_8c36e 15 = .ok (.iload_n 0, 1) := by decide +kernel
theorem dJ3_checkFromToIndex_8c36e_16 : decode cJ3_checkFromToIndex_8c36e 16 = .ok (.iload_n 1, 1) := by decide +kernel
theorem dJ3_checkFromToIndex_8c36e_17 : decode cJ3_checkFromToIndex_8c36e 17 = .ok (.iload_n 2, 1) := by decide +kernel
theorem dJ3_checkFromToIndex_8c36e_18 : decode cJ3_checkFromToIndex_8c36e 18 = .ok (.invokestatic 99, 3) := by decide +kernel
theorem dJ3_checkFromToIndex_8c36e_21 : decode cJ3_checkFromToIndex_8c36e 21 = .ok (.athrow, 1) := by decide +kernel
theorem dJ3_checkFromToIndex_8c36e_22 : decode cJ3_checkFromToIndex_8c36e 22 = .ok (.iload_n 0, 1) := by decide +kernel
theorem dJ3_checkFromToIndex_8c36e_23 : decode cJ3_checkFromToIndex_8c36e 23 = .ok (.ireturn, 1) := by decide +kernel
theorem dL_law_0 : decode cL_law 0 = .ok (.new 7, 3) := by decide +kernel
theorem dL_law_3 : decode cL_law 3 = .ok (.dup, 1) := by decide +kernel
theorem dL_law_4 : decode cL_law 4 = .ok (.invokespecial 9, 3) := by decide +kernel
theorem dL_law_7 : decode cL_law 7 = .ok (.astore_n 1, 1) := by decide +kernel
theorem dL_law_8 : decode cL_law 8 = .ok (.new 10, 3) := by decide +kernel
theorem dL_law_11 : decode cL_law 11 = .ok (.dup, 1) := by decide +kernel
theorem dL_law_12 : decode cL_law 12 = .ok (.invokespecial 12, 3) := by decide +kernel
theorem dL_law_15 : decode cL_law 15 = .ok (.astore_n 2, 1) := by decide +kernel
theorem dL_law_16 : decode cL_law 16 = .ok (.iconst 0, 1) := by decide +kernel
theorem dL_law_17 : decode cL_law 17 = .ok (.istore_n 3, 1) := by decide +kernel
theorem dL_law_18 : decode cL_law 18 = .ok (.iload_n 3, 1) := by decide +kernel
theorem dL_law_19 : decode cL_law 19 = .ok (.aload_n 0, 1) := by decide +kernel
theorem dL_law_20 : decode cL_law 20 = .ok (.arraylength, 1) := by decide +kernel
theorem dL_law_21 : decode cL_law 21 = .ok (.iconst 4, 1) := by decide +kernel
theorem dL_law_22 : decode cL_law 22 = .ok (.isub, 1) := by decide +kernel
theorem dL_law_23 : decode cL_law 23 = .ok (.if_icmp .gt 777, 3) := by decide +kernel
theorem dL_law_26 : decode cL_law 26 = .ok (.aload_n 0, 1) := by decide +kernel
theorem dL_law_27 : decode cL_law 27 = .ok (.iload_n 3, 1) := by decide +kernel
theorem dL_law_28 : decode cL_law 28 = .ok (.iaload, 1) := by decide +kernel
theorem dL_law_29 : decode cL_law 29 = .ok (.bipush 31, 2) := by decide +kernel
theorem dL_law_31 : decode cL_law 31 = .ok (.iand, 1) := by decide +kernel
theorem dL_law_32 : decode cL_law 32 = .ok (.tableswitch 762 0 27 #[128, 151, 164, 197, 230, 263, 286, 319, 342, 375, 388, 411, 434, 457, 470, 493, 506, 539, 562, 575, 608, 621, 644, 657, 670, 713, 726, 739], 128) := by decide +kernel
theorem dL_law_160 : decode cL_law 160 = .ok (.aload_n 1, 1) := by decide +kernel
theorem dL_law_161 : decode cL_law 161 = .ok (.aload_n 0, 1) := by decide +kernel
theorem dL_law_162 : decode cL_law 162 = .ok (.iload_n 3, 1) := by decide +kernel
theorem dL_law_163 : decode cL_law 163 = .ok (.iconst 1, 1) := by decide +kernel
theorem dL_law_164 : decode cL_law 164 = .ok (.iadd, 1) := by decide +kernel
theorem dL_law_165 : decode cL_law 165 = .ok (.iaload, 1) := by decide +kernel
theorem dL_law_166 : decode cL_law 166 = .ok (.invokevirtual 13, 3) := by decide +kernel
theorem dL_law_169 : decode cL_law 169 = .ok (.aload_n 2, 1) := by decide +kernel
theorem dL_law_170 : decode cL_law 170 = .ok (.aload_n 0, 1) := by decide +kernel
theorem dL_law_171 : decode cL_law 171 = .ok (.iload_n 3, 1) := by decide +kernel
theorem dL_law_172 : decode cL_law 172 = .ok (.iconst 1, 1) := by decide +kernel
theorem dL_law_173 : decode cL_law 173 = .ok (.iadd, 1) := by decide +kernel
theorem dL_law_174 : decode cL_law 174 = .ok (.iaload, 1) := by decide +kernel
theorem dL_law_175 : decode cL_law 175 = .ok (.invokevirtual 17, 3) := by decide +kernel
theorem dL_law_178 : decode cL_law 178 = .ok (.if_icmp .eq 616, 3) := by decide +kernel
theorem dL_law_181 : decode cL_law 181 = .ok (.iconst 0, 1) := by decide +kernel
theorem dL_law_182 : decode cL_law 182 = .ok (.ireturn, 1) := by decide +kernel
theorem dL_law_183 : decode cL_law 183 = .ok (.aload_n 1, 1) := by decide +kernel
theorem dL_law_184 : decode cL_law 184 = .ok (.invokevirtual 18, 3) := by decide +kernel
theorem dL_law_187 : decode cL_law 187 = .ok (.aload_n 2, 1) := by decide +kernel
theorem dL_law_188 : decode cL_law 188 = .ok (.invokevirtual 22, 3) := by decide +kernel
theorem dL_law_191 : decode cL_law 191 = .ok (.if_icmp .eq 603, 3) := by decide +kernel
theorem dL_law_194 : decode cL_law 194 = .ok (.iconst 0, 1) := by decide +kernel
theorem dL_law_195 : decode cL_law 195 = .ok (.ireturn, 1) := by decide +kernel
theorem dL_law_196 : decode cL_law 196 = .ok (.aload_n 1, 1) := by decide +kernel
theorem dL_law_197 : decode cL_law 197 = .ok (.aload_n 0, 1) := by decide +kernel
theorem dL_law_198 : decode cL_law 198 = .ok (.iload_n 3, 1) := by decide +kernel
theorem dL_law_199 : decode cL_law 199 = .ok (.iconst 1, 1) := by decide +kernel
theorem dL_law_200 : decode cL_law 200 = .ok (.iadd, 1) := by decide +kernel
theorem dL_law_201 : decode cL_law 201 = .ok (.iaload, 1) := by decide +kernel
theorem dL_law_202 : decode cL_law 202 = .ok (.aload_n 0, 1) := by decide +kernel
theorem dL_law_203 : decode cL_law 203 = .ok (.iload_n 3, 1) := by decide +kernel
theorem dL_law_204 : decode cL_law 204 = .ok (.iconst 2, 1) := by decide +kernel
theorem dL_law_205 : decode cL_law 205 = .ok (.iadd, 1) := by decide +kernel
theorem dL_law_206 : decode cL_law 206 = .ok (.iaload, 1) := by decide +kernel
theorem dL_law_207 : decode cL_law 207 = .ok (.invokevirtual 23, 3) := by decide +kernel
theorem dL_law_210 : decode cL_law 210 = .ok (.aload_n 2, 1) := by decide +kernel
theorem dL_law_211 : decode cL_law 211 = .ok (.aload_n 0, 1) := by decide +kernel
theorem dL_law_212 : decode cL_law 212 = .ok (.iload_n 3, 1) := by decide +kernel
theorem dL_law_213 : decode cL_law 213 = .ok (.iconst 1, 1) := by decide +kernel
theorem dL_law_214 : decode cL_law 214 = .ok (.iadd, 1) := by decide +kernel
theorem dL_law_215 : decode cL_law 215 = .ok (.iaload, 1) := by decide +kernel
theorem dL_law_216 : decode cL_law 216 = .ok (.aload_n 0, 1) := by decide +kernel
theorem dL_law_217 : decode cL_law 217 = .ok (.iload_n 3, 1) := by decide +kernel
theorem dL_law_218 : decode cL_law 218 = .ok (.iconst 2, 1) := by decide +kernel
theorem dL_law_219 : decode cL_law 219 = .ok (.iadd, 1) := by decide +kernel
theorem dL_law_220 : decode cL_law 220 = .ok (.iaload, 1) := by decide +kernel
theorem dL_law_221 : decode cL_law 221 = .ok (.invokevirtual 27, 3) := by decide +kernel
theorem dL_law_224 : decode cL_law 224 = .ok (.if_icmp .eq 570, 3) := by decide +kernel
theorem dL_law_227 : decode cL_law 227 = .ok (.iconst 0, 1) := by decide +kernel
theorem dL_law_228 : decode cL_law 228 = .ok (.ireturn, 1) := by decide +kernel
theorem dL_law_229 : decode cL_law 229 = .ok (.aload_n 1, 1) := by decide +kernel
theorem dL_law_230 : decode cL_law 230 = .ok (.aload_n 0, 1) := by decide +kernel
theorem dL_law_231 : decode cL_law 231 = .ok (.iload_n 3, 1) := by decide +kernel
theorem dL_law_232 : decode cL_law 232 = .ok (.iconst 1, 1) := by decide +kernel
theorem dL_law_233 : decode cL_law 233 = .ok (.iadd, 1) := by decide +kernel
theorem dL_law_234 : decode cL_law 234 = .ok (.iaload, 1) := by decide +kernel
theorem dL_law_235 : decode cL_law 235 = .ok (.aload_n 0, 1) := by decide +kernel
theorem dL_law_236 : decode cL_law 236 = .ok (.iload_n 3, 1) := by decide +kernel
theorem dL_law_237 : decode cL_law 237 = .ok (.iconst 2, 1) := by decide +kernel
theorem dL_law_238 : decode cL_law 238 = .ok (.iadd, 1) := by decide +kernel
theorem dL_law_239 : decode cL_law 239 = .ok (.iaload, 1) := by decide +kernel
theorem dL_law_240 : decode cL_law 240 = .ok (.invokevirtual 28, 3) := by decide +kernel
theorem dL_law_243 : decode cL_law 243 = .ok (.aload_n 2, 1) := by decide +kernel
theorem dL_law_244 : decode cL_law 244 = .ok (.aload_n 0, 1) := by decide +kernel
theorem dL_law_245 : decode cL_law 245 = .ok (.iload_n 3, 1) := by decide +kernel
theorem dL_law_246 : decode cL_law 246 = .ok (.iconst 1, 1) := by decide +kernel
theorem dL_law_247 : decode cL_law 247 = .ok (.iadd, 1) := by decide +kernel
theorem dL_law_248 : decode cL_law 248 = .ok (.iaload, 1) := by decide +kernel
theorem dL_law_249 : decode cL_law 249 = .ok (.aload_n 0, 1) := by decide +kernel
theorem dL_law_250 : decode cL_law 250 = .ok (.iload_n 3, 1) := by decide +kernel
theorem dL_law_251 : decode cL_law 251 = .ok (.iconst 2, 1) := by decide +kernel
theorem dL_law_252 : decode cL_law 252 = .ok (.iadd, 1) := by decide +kernel
theorem dL_law_253 : decode cL_law 253 = .ok (.iaload, 1) := by decide +kernel
theorem dL_law_254 : decode cL_law 254 = .ok (.invokevirtual 31, 3) := by decide +kernel
theorem dL_law_257 : decode cL_law 257 = .ok (.if_icmp .eq 537, 3) := by decide +kernel
theorem dL_law_260 : decode cL_law 260 = .ok (.iconst 0, 1) := by decide +kernel
theorem dL_law_261 : decode cL_law 261 = .ok (.ireturn, 1) := by decide +kernel
theorem dL_law_262 : decode cL_law 262 = .ok (.aload_n 1, 1) := by decide +kernel
theorem dL_law_263 : decode cL_law 263 = .ok (.aload_n 0, 1) := by decide +kernel
theorem dL_law_264 : decode cL_law 264 = .ok (.iload_n 3, 1) := by decide +kernel
theorem dL_law_265 : decode cL_law 265 = .ok (.iconst 1, 1) := by decide +kernel
theorem dL_law_266 : decode cL_law 266 = .ok (.iadd, 1) := by decide +kernel
theorem dL_law_267 : decode cL_law 267 = .ok (.iaload, 1) := by decide +kernel
theorem dL_law_268 : decode cL_law 268 = .ok (.aload_n 0, 1) := by decide +kernel
theorem dL_law_269 : decode cL_law 269 = .ok (.iload_n 3, 1) := by decide +kernel
theorem dL_law_270 : decode cL_law 270 = .ok (.iconst 2, 1) := by decide +kernel
theorem dL_law_271 : decode cL_law 271 = .ok (.iadd, 1) := by decide +kernel
theorem dL_law_272 : decode cL_law 272 = .ok (.iaload, 1) := by decide +kernel
theorem dL_law_273 : decode cL_law 273 = .ok (.invokevirtual 32, 3) := by decide +kernel
theorem dL_law_276 : decode cL_law 276 = .ok (.aload_n 2, 1) := by decide +kernel
theorem dL_law_277 : decode cL_law 277 = .ok (.aload_n 0, 1) := by decide +kernel
theorem dL_law_278 : decode cL_law 278 = .ok (.iload_n 3, 1) := by decide +kernel
theorem dL_law_279 : decode cL_law 279 = .ok (.iconst 1, 1) := by decide +kernel
theorem dL_law_280 : decode cL_law 280 = .ok (.iadd, 1) := by decide +kernel
theorem dL_law_281 : decode cL_law 281 = .ok (.iaload, 1) := by decide +kernel
theorem dL_law_282 : decode cL_law 282 = .ok (.aload_n 0, 1) := by decide +kernel
theorem dL_law_283 : decode cL_law 283 = .ok (.iload_n 3, 1) := by decide +kernel
theorem dL_law_284 : decode cL_law 284 = .ok (.iconst 2, 1) := by decide +kernel
theorem dL_law_285 : decode cL_law 285 = .ok (.iadd, 1) := by decide +kernel
theorem dL_law_286 : decode cL_law 286 = .ok (.iaload, 1) := by decide +kernel
theorem dL_law_287 : decode cL_law 287 = .ok (.invokevirtual 35, 3) := by decide +kernel
theorem dL_law_290 : decode cL_law 290 = .ok (.if_icmp .eq 504, 3) := by decide +kernel
theorem dL_law_293 : decode cL_law 293 = .ok (.iconst 0, 1) := by decide +kernel
theorem dL_law_294 : decode cL_law 294 = .ok (.ireturn, 1) := by decide +kernel
theorem dL_law_295 : decode cL_law 295 = .ok (.aload_n 1, 1) := by decide +kernel
theorem dL_law_296 : decode cL_law 296 = .ok (.aload_n 0, 1) := by decide +kernel
theorem dL_law_297 : decode cL_law 297 = .ok (.iload_n 3, 1) := by decide +kernel
theorem dL_law_298 : decode cL_law 298 = .ok (.iconst 1, 1) := by decide +kernel
theorem dL_law_299 : decode cL_law 299 = .ok (.iadd, 1) := by decide +kernel
theorem dL_law_300 : decode cL_law 300 = .ok (.iaload, 1) := by decide +kernel
theorem dL_law_301 : decode cL_law 301 = .ok (.invokevirtual 36, 3) := by decide +kernel
theorem dL_law_304 : decode cL_law 304 = .ok (.aload_n 2, 1) := by decide +kernel
theorem dL_law_305 : decode cL_law 305 = .ok (.aload_n 0, 1) := by decide +kernel
theorem dL_law_306 : decode cL_law 306 = .ok (.iload_n 3, 1) := by decide +kernel
theorem dL_law_307 : decode cL_law 307 = .ok (.iconst 1, 1) := by decide +kernel
theorem dL_law_308 : decode cL_law 308 = .ok (.iadd, 1) := by decide +kernel
theorem dL_law_309 : decode cL_law 309 = .ok (.iaload, 1) := by decide +kernel
theorem dL_law_310 : decode cL_law 310 = .ok (.invokevirtual 39, 3) := by decide +kernel
theorem dL_law_313 : decode cL_law 313 = .ok (.if_icmp .eq 481, 3) := by decide +kernel
theorem dL_law_316 : decode cL_law 316 = .ok (.iconst 0, 1) := by decide +kernel
theorem dL_law_317 : decode cL_law 317 = .ok (.ireturn, 1) := by decide +kernel
theorem dL_law_318 : decode cL_law 318 = .ok (.aload_n 1, 1) := by decide +kernel
theorem dL_law_319 : decode cL_law 319 = .ok (.aload_n 0, 1) := by decide +kernel
theorem dL_law_320 : decode cL_law 320 = .ok (.iload_n 3, 1) := by decide +kernel
theorem dL_law_321 : decode cL_law 321 = .ok (.iconst 1, 1) := by decide +kernel
theorem dL_law_322 : decode cL_law 322 = .ok (.iadd, 1) := by decide +kernel
theorem dL_law_323 : decode cL_law 323 = .ok (.iaload, 1) := by decide +kernel
theorem dL_law_324 : decode cL_law 324 = .ok (.aload_n 0, 1) := by decide +kernel
theorem dL_law_325 : decode cL_law 325 = .ok (.iload_n 3, 1) := by decide +kernel
theorem dL_law_326 : decode cL_law 326 = .ok (.iconst 2, 1) := by decide +kernel
theorem dL_law_327 : decode cL_law 327 = .ok (.iadd, 1) := by decide +kernel
theorem dL_law_328 : decode cL_law 328 = .ok (.iaload, 1) := by decide +kernel
theorem dL_law_329 : decode cL_law 329 = .ok (.invokevirtual 40, 3) := by decide +kernel
theorem dL_law_332 : decode cL_law 332 = .ok (.aload_n 2, 1) := by decide +kernel
theorem dL_law_333 : decode cL_law 333 = .ok (.aload_n 0, 1) := by decide +kernel
theorem dL_law_334 : decode cL_law 334 = .ok (.iload_n 3, 1) := by decide +kernel
theorem dL_law_335 : decode cL_law 335 = .ok (.iconst 1, 1) := by decide +kernel
theorem dL_law_336 : decode cL_law 336 = .ok (.iadd, 1) := by decide +kernel
theorem dL_law_337 : decode cL_law 337 = .ok (.iaload, 1) := by decide +kernel
theorem dL_law_338 : decode cL_law 338 = .ok (.aload_n 0, 1) := by decide +kernel
theorem dL_law_339 : decode cL_law 339 = .ok (.iload_n 3, 1) := by decide +kernel
theorem dL_law_340 : decode cL_law 340 = .ok (.iconst 2, 1) := by decide +kernel
theorem dL_law_341 : decode cL_law 341 = .ok (.iadd, 1) := by decide +kernel
theorem dL_law_342 : decode cL_law 342 = .ok (.iaload, 1) := by decide +kernel
theorem dL_law_343 : decode cL_law 343 = .ok (.invokevirtual 43, 3) := by decide +kernel
theorem dL_law_346 : decode cL_law 346 = .ok (.if_icmp .eq 448, 3) := by decide +kernel
theorem dL_law_349 : decode cL_law 349 = .ok (.iconst 0, 1) := by decide +kernel
theorem dL_law_350 : decode cL_law 350 = .ok (.ireturn, 1) := by decide +kernel
theorem dL_law_351 : decode cL_law 351 = .ok (.aload_n 1, 1) := by decide +kernel
theorem dL_law_352 : decode cL_law 352 = .ok (.aload_n 0, 1) := by decide +kernel
theorem dL_law_353 : decode cL_law 353 = .ok (.iload_n 3, 1) := by decide +kernel
theorem dL_law_354 : decode cL_law 354 = .ok (.iconst 1, 1) := by decide +kernel
theorem dL_law_355 : decode cL_law 355 = .ok (.iadd, 1) := by decide +kernel
theorem dL_law_356 : decode cL_law 356 = .ok (.iaload, 1) := by decide +kernel
theorem dL_law_357 : decode cL_law 357 = .ok (.invokevirtual 44, 3) := by decide +kernel
theorem dL_law_360 : decode cL_law 360 = .ok (.aload_n 2, 1) := by decide +kernel
theorem dL_law_361 : decode cL_law 361 = .ok (.aload_n 0, 1) := by decide +kernel
theorem dL_law_362 : decode cL_law 362 = .ok (.iload_n 3, 1) := by decide +kernel
theorem dL_law_363 : decode cL_law 363 = .ok (.iconst 1, 1) := by decide +kernel
theorem dL_law_364 : decode cL_law 364 = .ok (.iadd, 1) := by decide +kernel
theorem dL_law_365 : decode cL_law 365 = .ok (.iaload, 1) := by decide +kernel
theorem dL_law_366 : decode cL_law 366 = .ok (.invokevirtual 47, 3) := by decide +kernel
theorem dL_law_369 : decode cL_law 369 = .ok (.if_icmp .eq 425, 3) := by decide +kernel
theorem dL_law_372 : decode cL_law 372 = .ok (.iconst 0, 1) := by decide +kernel
theorem dL_law_373 : decode cL_law 373 = .ok (.ireturn, 1) := by decide +kernel
theorem dL_law_374 : decode cL_law 374 = .ok (.aload_n 1, 1) := by decide +kernel
theorem dL_law_375 : decode cL_law 375 = .ok (.aload_n 0, 1) := by decide +kernel
theorem dL_law_376 : decode cL_law 376 = .ok (.iload_n 3, 1) := by decide +kernel
theorem dL_law_377 : decode cL_law 377 = .ok (.iconst 1, 1) := by decide +kernel
theorem dL_law_378 : decode cL_law 378 = .ok (.iadd, 1) := by decide +kernel
theorem dL_law_379 : decode cL_law 379 = .ok (.iaload, 1) := by decide +kernel
theorem dL_law_380 : decode cL_law 380 = .ok (.aload_n 0, 1) := by decide +kernel
theorem dL_law_381 : decode cL_law 381 = .ok (.iload_n 3, 1) := by decide +kernel
theorem dL_law_382 : decode cL_law 382 = .ok (.iconst 2, 1) := by decide +kernel
theorem dL_law_383 : decode cL_law 383 = .ok (.iadd, 1) := by decide +kernel
theorem dL_law_384 : decode cL_law 384 = .ok (.iaload, 1) := by decide +kernel
theorem dL_law_385 : decode cL_law 385 = .ok (.invokevirtual 48, 3) := by decide +kernel
theorem dL_law_388 : decode cL_law 388 = .ok (.aload_n 2, 1) := by decide +kernel
theorem dL_law_389 : decode cL_law 389 = .ok (.aload_n 0, 1) := by decide +kernel
theorem dL_law_390 : decode cL_law 390 = .ok (.iload_n 3, 1) := by decide +kernel
theorem dL_law_391 : decode cL_law 391 = .ok (.iconst 1, 1) := by decide +kernel
theorem dL_law_392 : decode cL_law 392 = .ok (.iadd, 1) := by decide +kernel
theorem dL_law_393 : decode cL_law 393 = .ok (.iaload, 1) := by decide +kernel
theorem dL_law_394 : decode cL_law 394 = .ok (.aload_n 0, 1) := by decide +kernel
theorem dL_law_395 : decode cL_law 395 = .ok (.iload_n 3, 1) := by decide +kernel
theorem dL_law_396 : decode cL_law 396 = .ok (.iconst 2, 1) := by decide +kernel
theorem dL_law_397 : decode cL_law 397 = .ok (.iadd, 1) := by decide +kernel
theorem dL_law_398 : decode cL_law 398 = .ok (.iaload, 1) := by decide +kernel
theorem dL_law_399 : decode cL_law 399 = .ok (.invokevirtual 51, 3) := by decide +kernel
theorem dL_law_402 : decode cL_law 402 = .ok (.if_icmp .eq 392, 3) := by decide +kernel
theorem dL_law_405 : decode cL_law 405 = .ok (.iconst 0, 1) := by decide +kernel
theorem dL_law_406 : decode cL_law 406 = .ok (.ireturn, 1) := by decide +kernel
theorem dL_law_407 : decode cL_law 407 = .ok (.aload_n 1, 1) := by decide +kernel
theorem dL_law_408 : decode cL_law 408 = .ok (.invokevirtual 52, 3) := by decide +kernel
theorem dL_law_411 : decode cL_law 411 = .ok (.aload_n 2, 1) := by decide +kernel
theorem dL_law_412 : decode cL_law 412 = .ok (.invokevirtual 55, 3) := by decide +kernel
theorem dL_law_415 : decode cL_law 415 = .ok (.if_icmp .eq 379, 3) := by decide +kernel
theorem dL_law_418 : decode cL_law 418 = .ok (.iconst 0, 1) := by decide +kernel
theorem dL_law_419 : decode cL_law 419 = .ok (.ireturn, 1) := by decide +kernel
theorem dL_law_420 : decode cL_law 420 = .ok (.aload_n 1, 1) := by decide +kernel
theorem dL_law_421 : decode cL_law 421 = .ok (.aload_n 0, 1) := by decide +kernel
theorem dL_law_422 : decode cL_law 422 = .ok (.iload_n 3, 1) := by decide +kernel
theorem dL_law_423 : decode cL_law 423 = .ok (.iconst 1, 1) := by decide +kernel
theorem dL_law_424 : decode cL_law 424 = .ok (.iadd, 1) := by decide +kernel
theorem dL_law_425 : decode cL_law 425 = .ok (.iaload, 1) := by decide +kernel
theorem dL_law_426 : decode cL_law 426 = .ok (.invokevirtual 56, 3) := by decide +kernel
theorem dL_law_429 : decode cL_law 429 = .ok (.aload_n 2, 1) := by decide +kernel
theorem dL_law_430 : decode cL_law 430 = .ok (.aload_n 0, 1) := by decide +kernel
theorem dL_law_431 : decode cL_law 431 = .ok (.iload_n 3, 1) := by decide +kernel
theorem dL_law_432 : decode cL_law 432 = .ok (.iconst 1, 1) := by decide +kernel
theorem dL_law_433 : decode cL_law 433 = .ok (.iadd, 1) := by decide +kernel
theorem dL_law_434 : decode cL_law 434 = .ok (.iaload, 1) := by decide +kernel
theorem dL_law_435 : decode cL_law 435 = .ok (.invokevirtual 59, 3) := by decide +kernel
theorem dL_law_438 : decode cL_law 438 = .ok (.if_icmp .eq 356, 3) := by decide +kernel
theorem dL_law_441 : decode cL_law 441 = .ok (.iconst 0, 1) := by decide +kernel
theorem dL_law_442 : decode cL_law 442 = .ok (.ireturn, 1) := by decide +kernel
theorem dL_law_443 : decode cL_law 443 = .ok (.aload_n 1, 1) := by decide +kernel
theorem dL_law_444 : decode cL_law 444 = .ok (.aload_n 0, 1) := by decide +kernel
theorem dL_law_445 : decode cL_law 445 = .ok (.iload_n 3, 1) := by decide +kernel
theorem dL_law_446 : decode cL_law 446 = .ok (.iconst 1, 1) := by decide +kernel
theorem dL_law_447 : decode cL_law 447 = .ok (.iadd, 1) := by decide +kernel
theorem dL_law_448 : decode cL_law 448 = .ok (.iaload, 1) := by decide +kernel
theorem dL_law_449 : decode cL_law 449 = .ok (.invokevirtual 60, 3) := by decide +kernel
theorem dL_law_452 : decode cL_law 452 = .ok (.aload_n 2, 1) := by decide +kernel
theorem dL_law_453 : decode cL_law 453 = .ok (.aload_n 0, 1) := by decide +kernel
theorem dL_law_454 : decode cL_law 454 = .ok (.iload_n 3, 1) := by decide +kernel
theorem dL_law_455 : decode cL_law 455 = .ok (.iconst 1, 1) := by decide +kernel
theorem dL_law_456 : decode cL_law 456 = .ok (.iadd, 1) := by decide +kernel
theorem dL_law_457 : decode cL_law 457 = .ok (.iaload, 1) := by decide +kernel
theorem dL_law_458 : decode cL_law 458 = .ok (.invokevirtual 63, 3) := by decide +kernel
theorem dL_law_461 : decode cL_law 461 = .ok (.if_icmp .eq 333, 3) := by decide +kernel
theorem dL_law_464 : decode cL_law 464 = .ok (.iconst 0, 1) := by decide +kernel
theorem dL_law_465 : decode cL_law 465 = .ok (.ireturn, 1) := by decide +kernel
theorem dL_law_466 : decode cL_law 466 = .ok (.aload_n 1, 1) := by decide +kernel
theorem dL_law_467 : decode cL_law 467 = .ok (.aload_n 0, 1) := by decide +kernel
theorem dL_law_468 : decode cL_law 468 = .ok (.iload_n 3, 1) := by decide +kernel
theorem dL_law_469 : decode cL_law 469 = .ok (.iconst 1, 1) := by decide +kernel
theorem dL_law_470 : decode cL_law 470 = .ok (.iadd, 1) := by decide +kernel
theorem dL_law_471 : decode cL_law 471 = .ok (.iaload, 1) := by decide +kernel
theorem dL_law_472 : decode cL_law 472 = .ok (.invokevirtual 64, 3) := by decide +kernel
theorem dL_law_475 : decode cL_law 475 = .ok (.aload_n 2, 1) := by decide +kernel
theorem dL_law_476 : decode cL_law 476 = .ok (.aload_n 0, 1) := by decide +kernel
theorem dL_law_477 : decode cL_law 477 = .ok (.iload_n 3, 1) := by decide +kernel
theorem dL_law_478 : decode cL_law 478 = .ok (.iconst 1, 1) := by decide +kernel
theorem dL_law_479 : decode cL_law 479 = .ok (.iadd, 1) := by decide +kernel
theorem dL_law_480 : decode cL_law 480 = .ok (.iaload, 1) := by decide +kernel
theorem dL_law_481 : decode cL_law 481 = .ok (.invokevirtual 67, 3) := by decide +kernel
theorem dL_law_484 : decode cL_law 484 = .ok (.if_icmp .eq 310, 3) := by decide +kernel
theorem dL_law_487 : decode cL_law 487 = .ok (.iconst 0, 1) := by decide +kernel
theorem dL_law_488 : decode cL_law 488 = .ok (.ireturn, 1) := by decide +kernel
theorem dL_law_489 : decode cL_law 489 = .ok (.aload_n 1, 1) := by decide +kernel
theorem dL_law_490 : decode cL_law 490 = .ok (.invokevirtual 68, 3) := by decide +kernel
theorem dL_law_493 : decode cL_law 493 = .ok (.aload_n 2, 1) := by decide +kernel
theorem dL_law_494 : decode cL_law 494 = .ok (.invokevirtual 71, 3) := by decide +kernel
theorem dL_law_497 : decode cL_law 497 = .ok (.if_icmp .eq 297, 3) := by decide +kernel
theorem dL_law_500 : decode cL_law 500 = .ok (.iconst 0, 1) := by decide +kernel
theorem dL_law_501 : decode cL_law 501 = .ok (.ireturn, 1) := by decide +kernel
theorem dL_law_502 : decode cL_law 502 = .ok (.aload_n 1, 1) := by decide +kernel
theorem dL_law_503 : decode cL_law 503 = .ok (.aload_n 0, 1) := by decide +kernel
theorem dL_law_504 : decode cL_law 504 = .ok (.iload_n 3, 1) := by decide +kernel
theorem dL_law_505 : decode cL_law 505 = .ok (.iconst 1, 1) := by decide +kernel
theorem dL_law_506 : decode cL_law 506 = .ok (.iadd, 1) := by decide +kernel
theorem dL_law_507 : decode cL_law 507 = .ok (.iaload, 1) := by decide +kernel
theorem dL_law_508 : decode cL_law 508 = .ok (.invokevirtual 72, 3) := by decide +kernel
theorem dL_law_511 : decode cL_law 511 = .ok (.aload_n 2, 1) := by decide +kernel
theorem dL_law_512 : decode cL_law 512 = .ok (.aload_n 0, 1) := by decide +kernel
theorem dL_law_513 : decode cL_law 513 = .ok (.iload_n 3, 1) := by decide +kernel
theorem dL_law_514 : decode cL_law 514 = .ok (.iconst 1, 1) := by decide +kernel
theorem dL_law_515 : decode cL_law 515 = .ok (.iadd, 1) := by decide +kernel
theorem dL_law_516 : decode cL_law 516 = .ok (.iaload, 1) := by decide +kernel
theorem dL_law_517 : decode cL_law 517 = .ok (.invokevirtual 75, 3) := by decide +kernel
theorem dL_law_520 : decode cL_law 520 = .ok (.if_icmp .eq 274, 3) := by decide +kernel
theorem dL_law_523 : decode cL_law 523 = .ok (.iconst 0, 1) := by decide +kernel
theorem dL_law_524 : decode cL_law 524 = .ok (.ireturn, 1) := by decide +kernel
theorem dL_law_525 : decode cL_law 525 = .ok (.aload_n 1, 1) := by decide +kernel
theorem dL_law_526 : decode cL_law 526 = .ok (.invokevirtual 76, 3) := by decide +kernel
theorem dL_law_529 : decode cL_law 529 = .ok (.aload_n 2, 1) := by decide +kernel
theorem dL_law_530 : decode cL_law 530 = .ok (.invokevirtual 79, 3) := by decide +kernel
theorem dL_law_533 : decode cL_law 533 = .ok (.if_icmp .eq 261, 3) := by decide +kernel
theorem dL_law_536 : decode cL_law 536 = .ok (.iconst 0, 1) := by decide +kernel
theorem dL_law_537 : decode cL_law 537 = .ok (.ireturn, 1) := by decide +kernel
theorem dL_law_538 : decode cL_law 538 = .ok (.aload_n 1, 1) := by decide +kernel
theorem dL_law_539 : decode cL_law 539 = .ok (.aload_n 0, 1) := by decide +kernel
theorem dL_law_540 : decode cL_law 540 = .ok (.iload_n 3, 1) := by decide +kernel
theorem dL_law_541 : decode cL_law 541 = .ok (.iconst 1, 1) := by decide +kernel
theorem dL_law_542 : decode cL_law 542 = .ok (.iadd, 1) := by decide +kernel
theorem dL_law_543 : decode cL_law 543 = .ok (.iaload, 1) := by decide +kernel
theorem dL_law_544 : decode cL_law 544 = .ok (.aload_n 0, 1) := by decide +kernel
theorem dL_law_545 : decode cL_law 545 = .ok (.iload_n 3, 1) := by decide +kernel
theorem dL_law_546 : decode cL_law 546 = .ok (.iconst 2, 1) := by decide +kernel
theorem dL_law_547 : decode cL_law 547 = .ok (.iadd, 1) := by decide +kernel
theorem dL_law_548 : decode cL_law 548 = .ok (.iaload, 1) := by decide +kernel
theorem dL_law_549 : decode cL_law 549 = .ok (.invokevirtual 80, 3) := by decide +kernel
theorem dL_law_552 : decode cL_law 552 = .ok (.aload_n 2, 1) := by decide +kernel
theorem dL_law_553 : decode cL_law 553 = .ok (.aload_n 0, 1) := by decide +kernel
theorem dL_law_554 : decode cL_law 554 = .ok (.iload_n 3, 1) := by decide +kernel
theorem dL_law_555 : decode cL_law 555 = .ok (.iconst 1, 1) := by decide +kernel
theorem dL_law_556 : decode cL_law 556 = .ok (.iadd, 1) := by decide +kernel
theorem dL_law_557 : decode cL_law 557 = .ok (.iaload, 1) := by decide +kernel
theorem dL_law_558 : decode cL_law 558 = .ok (.aload_n 0, 1) := by decide +kernel
theorem dL_law_559 : decode cL_law 559 = .ok (.iload_n 3, 1) := by decide +kernel
theorem dL_law_560 : decode cL_law 560 = .ok (.iconst 2, 1) := by decide +kernel
theorem dL_law_561 : decode cL_law 561 = .ok (.iadd, 1) := by decide +kernel
theorem dL_law_562 : decode cL_law 562 = .ok (.iaload, 1) := by decide +kernel
theorem dL_law_563 : decode cL_law 563 = .ok (.invokevirtual 83, 3) := by decide +kernel
theorem dL_law_566 : decode cL_law 566 = .ok (.if_icmp .eq 228, 3) := by decide +kernel
theorem dL_law_569 : decode cL_law 569 = .ok (.iconst 0, 1) := by decide +kernel
theorem dL_law_570 : decode cL_law 570 = .ok (.ireturn, 1) := by decide +kernel
theorem dL_law_571 : decode cL_law 571 = .ok (.aload_n 1, 1) := by decide +kernel
theorem dL_law_572 : decode cL_law 572 = .ok (.aload_n 0, 1) := by decide +kernel
theorem dL_law_573 : decode cL_law 573 = .ok (.iload_n 3, 1) := by decide +kernel
theorem dL_law_574 : decode cL_law 574 = .ok (.iconst 1, 1) := by decide +kernel
theorem dL_law_575 : decode cL_law 575 = .ok (.iadd, 1) := by decide +kernel
theorem dL_law_576 : decode cL_law 576 = .ok (.iaload, 1) := by decide +kernel
theorem dL_law_577 : decode cL_law 577 = .ok (.invokevirtual 84, 3) := by decide +kernel
theorem dL_law_580 : decode cL_law 580 = .ok (.aload_n 2, 1) := by decide +kernel
theorem dL_law_581 : decode cL_law 581 = .ok (.aload_n 0, 1) := by decide +kernel
theorem dL_law_582 : decode cL_law 582 = .ok (.iload_n 3, 1) := by decide +kernel
theorem dL_law_583 : decode cL_law 583 = .ok (.iconst 1, 1) := by decide +kernel
theorem dL_law_584 : decode cL_law 584 = .ok (.iadd, 1) := by decide +kernel
theorem dL_law_585 : decode cL_law 585 = .ok (.iaload, 1) := by decide +kernel
theorem dL_law_586 : decode cL_law 586 = .ok (.invokevirtual 87, 3) := by decide +kernel
theorem dL_law_589 : decode cL_law 589 = .ok (.if_icmp .eq 205, 3) := by decide +kernel
theorem dL_law_592 : decode cL_law 592 = .ok (.iconst 0, 1) := by decide +kernel
theorem dL_law_593 : decode cL_law 593 = .ok (.ireturn, 1) := by decide +kernel
theorem dL_law_594 : decode cL_law 594 = .ok (.aload_n 1, 1) := by decide +kernel
theorem dL_law_595 : decode cL_law 595 = .ok (.invokevirtual 88, 3) := by decide +kernel
theorem dL_law_598 : decode cL_law 598 = .ok (.aload_n 2, 1) := by decide +kernel
theorem dL_law_599 : decode cL_law 599 = .ok (.invokevirtual 91, 3) := by decide +kernel
theorem dL_law_602 : decode cL_law 602 = .ok (.if_icmp .eq 192, 3) := by decide +kernel
theorem dL_law_605 : decode cL_law 605 = .ok (.iconst 0, 1) := by decide +kernel
theorem dL_law_606 : decode cL_law 606 = .ok (.ireturn, 1) := by decide +kernel
theorem dL_law_607 : decode cL_law 607 = .ok (.aload_n 1, 1) := by decide +kernel
theorem dL_law_608 : decode cL_law 608 = .ok (.aload_n 0, 1) := by decide +kernel
theorem dL_law_609 : decode cL_law 609 = .ok (.iload_n 3, 1) := by decide +kernel
theorem dL_law_610 : decode cL_law 610 = .ok (.iconst 1, 1) := by decide +kernel
theorem dL_law_611 : decode cL_law 611 = .ok (.iadd, 1) := by decide +kernel
theorem dL_law_612 : decode cL_law 612 = .ok (.iaload, 1) := by decide +kernel
theorem dL_law_613 : decode cL_law 613 = .ok (.aload_n 0, 1) := by decide +kernel
theorem dL_law_614 : decode cL_law 614 = .ok (.iload_n 3, 1) := by decide +kernel
theorem dL_law_615 : decode cL_law 615 = .ok (.iconst 2, 1) := by decide +kernel
theorem dL_law_616 : decode cL_law 616 = .ok (.iadd, 1) := by decide +kernel
theorem dL_law_617 : decode cL_law 617 = .ok (.iaload, 1) := by decide +kernel
theorem dL_law_618 : decode cL_law 618 = .ok (.invokevirtual 92, 3) := by decide +kernel
theorem dL_law_621 : decode cL_law 621 = .ok (.aload_n 2, 1) := by decide +kernel
theorem dL_law_622 : decode cL_law 622 = .ok (.aload_n 0, 1) := by decide +kernel
theorem dL_law_623 : decode cL_law 623 = .ok (.iload_n 3, 1) := by decide +kernel
theorem dL_law_624 : decode cL_law 624 = .ok (.iconst 1, 1) := by decide +kernel
theorem dL_law_625 : decode cL_law 625 = .ok (.iadd, 1) := by decide +kernel
theorem dL_law_626 : decode cL_law 626 = .ok (.iaload, 1) := by decide +kernel
theorem dL_law_627 : decode cL_law 627 = .ok (.aload_n 0, 1) := by decide +kernel
theorem dL_law_628 : decode cL_law 628 = .ok (.iload_n 3, 1) := by decide +kernel
theorem dL_law_629 : decode cL_law 629 = .ok (.iconst 2, 1) := by decide +kernel
theorem dL_law_630 : decode cL_law 630 = .ok (.iadd, 1) := by decide +kernel
theorem dL_law_631 : decode cL_law 631 = .ok (.iaload, 1) := by decide +kernel
theorem dL_law_632 : decode cL_law 632 = .ok (.invokevirtual 95, 3) := by decide +kernel
theorem dL_law_635 : decode cL_law 635 = .ok (.if_icmp .eq 159, 3) := by decide +kernel
theorem dL_law_638 : decode cL_law 638 = .ok (.iconst 0, 1) := by decide +kernel
theorem dL_law_639 : decode cL_law 639 = .ok (.ireturn, 1) := by decide +kernel
theorem dL_law_640 : decode cL_law 640 = .ok (.aload_n 1, 1) := by decide +kernel
theorem dL_law_641 : decode cL_law 641 = .ok (.invokevirtual 96, 3) := by decide +kernel
theorem dL_law_644 : decode cL_law 644 = .ok (.aload_n 2, 1) := by decide +kernel
theorem dL_law_645 : decode cL_law 645 = .ok (.invokevirtual 99, 3) := by decide +kernel
theorem dL_law_648 : decode cL_law 648 = .ok (.if_icmp .eq 146, 3) := by decide +kernel
theorem dL_law_651 : decode cL_law 651 = .ok (.iconst 0, 1) := by decide +kernel
theorem dL_law_652 : decode cL_law 652 = .ok (.ireturn, 1) := by decide +kernel
theorem dL_law_653 : decode cL_law 653 = .ok (.aload_n 1, 1) := by decide +kernel
theorem dL_law_654 : decode cL_law 654 = .ok (.aload_n 0, 1) := by decide +kernel
theorem dL_law_655 : decode cL_law 655 = .ok (.iload_n 3, 1) := by decide +kernel
theorem dL_law_656 : decode cL_law 656 = .ok (.iconst 1, 1) := by decide +kernel
theorem dL_law_657 : decode cL_law 657 = .ok (.iadd, 1) := by decide +kernel
theorem dL_law_658 : decode cL_law 658 = .ok (.iaload, 1) := by decide +kernel
theorem dL_law_659 : decode cL_law 659 = .ok (.invokevirtual 100, 3) := by decide +kernel
theorem dL_law_662 : decode cL_law 662 = .ok (.aload_n 2, 1) := by decide +kernel
theorem dL_law_663 : decode cL_law 663 = .ok (.aload_n 0, 1) := by decide +kernel
theorem dL_law_664 : decode cL_law 664 = .ok (.iload_n 3, 1) := by decide +kernel
theorem dL_law_665 : decode cL_law 665 = .ok (.iconst 1, 1) := by decide +kernel
theorem dL_law_666 : decode cL_law 666 = .ok (.iadd, 1) := by decide +kernel
theorem dL_law_667 : decode cL_law 667 = .ok (.iaload, 1) := by decide +kernel
theorem dL_law_668 : decode cL_law 668 = .ok (.invokevirtual 103, 3) := by decide +kernel
theorem dL_law_671 : decode cL_law 671 = .ok (.if_icmp .eq 123, 3) := by decide +kernel
theorem dL_law_674 : decode cL_law 674 = .ok (.iconst 0, 1) := by decide +kernel
theorem dL_law_675 : decode cL_law 675 = .ok (.ireturn, 1) := by decide +kernel
theorem dL_law_676 : decode cL_law 676 = .ok (.aload_n 1, 1) := by decide +kernel
theorem dL_law_677 : decode cL_law 677 = .ok (.invokevirtual 104, 3) := by decide +kernel
theorem dL_law_680 : decode cL_law 680 = .ok (.aload_n 2, 1) := by decide +kernel
theorem dL_law_681 : decode cL_law 681 = .ok (.invokevirtual 107, 3) := by decide +kernel
theorem dL_law_684 : decode cL_law 684 = .ok (.if_icmp .eq 110, 3) := by decide +kernel
theorem dL_law_687 : decode cL_law 687 = .ok (.iconst 0, 1) := by decide +kernel
theorem dL_law_688 : decode cL_law 688 = .ok (.ireturn, 1) := by decide +kernel
theorem dL_law_689 : decode cL_law 689 = .ok (.aload_n 1, 1) := by decide +kernel
theorem dL_law_690 : decode cL_law 690 = .ok (.invokevirtual 108, 3) := by decide +kernel
theorem dL_law_693 : decode cL_law 693 = .ok (.aload_n 2, 1) := by decide +kernel
theorem dL_law_694 : decode cL_law 694 = .ok (.invokevirtual 111, 3) := by decide +kernel
theorem dL_law_697 : decode cL_law 697 = .ok (.if_icmp .eq 97, 3) := by decide +kernel
theorem dL_law_700 : decode cL_law 700 = .ok (.iconst 0, 1) := by decide +kernel
theorem dL_law_701 : decode cL_law 701 = .ok (.ireturn, 1) := by decide +kernel
theorem dL_law_702 : decode cL_law 702 = .ok (.aload_n 1, 1) := by decide +kernel
theorem dL_law_703 : decode cL_law 703 = .ok (.aload_n 0, 1) := by decide +kernel
theorem dL_law_704 : decode cL_law 704 = .ok (.iload_n 3, 1) := by decide +kernel
theorem dL_law_705 : decode cL_law 705 = .ok (.iconst 1, 1) := by decide +kernel
theorem dL_law_706 : decode cL_law 706 = .ok (.iadd, 1) := by decide +kernel
theorem dL_law_707 : decode cL_law 707 = .ok (.iaload, 1) := by decide +kernel
theorem dL_law_708 : decode cL_law 708 = .ok (.aload_n 0, 1) := by decide +kernel
theorem dL_law_709 : decode cL_law 709 = .ok (.iload_n 3, 1) := by decide +kernel
theorem dL_law_710 : decode cL_law 710 = .ok (.iconst 2, 1) := by decide +kernel
theorem dL_law_711 : decode cL_law 711 = .ok (.iadd, 1) := by decide +kernel
theorem dL_law_712 : decode cL_law 712 = .ok (.iaload, 1) := by decide +kernel
theorem dL_law_713 : decode cL_law 713 = .ok (.aload_n 0, 1) := by decide +kernel
theorem dL_law_714 : decode cL_law 714 = .ok (.iload_n 3, 1) := by decide +kernel
theorem dL_law_715 : decode cL_law 715 = .ok (.iconst 3, 1) := by decide +kernel
theorem dL_law_716 : decode cL_law 716 = .ok (.iadd, 1) := by decide +kernel
theorem dL_law_717 : decode cL_law 717 = .ok (.iaload, 1) := by decide +kernel
theorem dL_law_718 : decode cL_law 718 = .ok (.invokevirtual 112, 3) := by decide +kernel
theorem dL_law_721 : decode cL_law 721 = .ok (.aload_n 2, 1) := by decide +kernel
theorem dL_law_722 : decode cL_law 722 = .ok (.aload_n 0, 1) := by decide +kernel
theorem dL_law_723 : decode cL_law 723 = .ok (.iload_n 3, 1) := by decide +kernel
theorem dL_law_724 : decode cL_law 724 = .ok (.iconst 1, 1) := by decide +kernel
theorem dL_law_725 : decode cL_law 725 = .ok (.iadd, 1) := by decide +kernel
theorem dL_law_726 : decode cL_law 726 = .ok (.iaload, 1) := by decide +kernel
theorem dL_law_727 : decode cL_law 727 = .ok (.aload_n 0, 1) := by decide +kernel
theorem dL_law_728 : decode cL_law 728 = .ok (.iload_n 3, 1) := by decide +kernel
theorem dL_law_729 : decode cL_law 729 = .ok (.iconst 2, 1) := by decide +kernel
theorem dL_law_730 : decode cL_law 730 = .ok (.iadd, 1) := by decide +kernel
theorem dL_law_731 : decode cL_law 731 = .ok (.iaload, 1) := by decide +kernel
theorem dL_law_732 : decode cL_law 732 = .ok (.aload_n 0, 1) := by decide +kernel
theorem dL_law_733 : decode cL_law 733 = .ok (.iload_n 3, 1) := by decide +kernel
theorem dL_law_734 : decode cL_law 734 = .ok (.iconst 3, 1) := by decide +kernel
theorem dL_law_735 : decode cL_law 735 = .ok (.iadd, 1) := by decide +kernel
theorem dL_law_736 : decode cL_law 736 = .ok (.iaload, 1) := by decide +kernel
theorem dL_law_737 : decode cL_law 737 = .ok (.invokevirtual 116, 3) := by decide +kernel
theorem dL_law_740 : decode cL_law 740 = .ok (.if_icmp .eq 54, 3) := by decide +kernel
theorem dL_law_743 : decode cL_law 743 = .ok (.iconst 0, 1) := by decide +kernel
theorem dL_law_744 : decode cL_law 744 = .ok (.ireturn, 1) := by decide +kernel
theorem dL_law_745 : decode cL_law 745 = .ok (.aload_n 1, 1) := by decide +kernel
theorem dL_law_746 : decode cL_law 746 = .ok (.invokevirtual 117, 3) := by decide +kernel
theorem dL_law_749 : decode cL_law 749 = .ok (.aload_n 2, 1) := by decide +kernel
theorem dL_law_750 : decode cL_law 750 = .ok (.invokevirtual 120, 3) := by decide +kernel
theorem dL_law_753 : decode cL_law 753 = .ok (.if_icmp .eq 41, 3) := by decide +kernel
theorem dL_law_756 : decode cL_law 756 = .ok (.iconst 0, 1) := by decide +kernel
theorem dL_law_757 : decode cL_law 757 = .ok (.ireturn, 1) := by decide +kernel
theorem dL_law_758 : decode cL_law 758 = .ok (.aload_n 1, 1) := by decide +kernel
theorem dL_law_759 : decode cL_law 759 = .ok (.invokevirtual 121, 3) := by decide +kernel
theorem dL_law_762 : decode cL_law 762 = .ok (.aload_n 2, 1) := by decide +kernel
theorem dL_law_763 : decode cL_law 763 = .ok (.invokevirtual 124, 3) := by decide +kernel
theorem dL_law_766 : decode cL_law 766 = .ok (.if_icmp .eq 28, 3) := by decide +kernel
theorem dL_law_769 : decode cL_law 769 = .ok (.iconst 0, 1) := by decide +kernel
theorem dL_law_770 : decode cL_law 770 = .ok (.ireturn, 1) := by decide +kernel
theorem dL_law_771 : decode cL_law 771 = .ok (.aload_n 1, 1) := by decide +kernel
theorem dL_law_772 : decode cL_law 772 = .ok (.aload_n 0, 1) := by decide +kernel
theorem dL_law_773 : decode cL_law 773 = .ok (.iload_n 3, 1) := by decide +kernel
theorem dL_law_774 : decode cL_law 774 = .ok (.iconst 1, 1) := by decide +kernel
theorem dL_law_775 : decode cL_law 775 = .ok (.iadd, 1) := by decide +kernel
theorem dL_law_776 : decode cL_law 776 = .ok (.iaload, 1) := by decide +kernel
theorem dL_law_777 : decode cL_law 777 = .ok (.invokevirtual 125, 3) := by decide +kernel
theorem dL_law_780 : decode cL_law 780 = .ok (.aload_n 2, 1) := by decide +kernel
theorem dL_law_781 : decode cL_law 781 = .ok (.aload_n 0, 1) := by decide +kernel
theorem dL_law_782 : decode cL_law 782 = .ok (.iload_n 3, 1) := by decide +kernel
theorem dL_law_783 : decode cL_law 783 = .ok (.iconst 1, 1) := by decide +kernel
theorem dL_law_784 : decode cL_law 784 = .ok (.iadd, 1) := by decide +kernel
theorem dL_law_785 : decode cL_law 785 = .ok (.iaload, 1) := by decide +kernel
theorem dL_law_786 : decode cL_law 786 = .ok (.invokevirtual 128, 3) := by decide +kernel
theorem dL_law_789 : decode cL_law 789 = .ok (.if_icmp .eq 5, 3) := by decide +kernel
theorem dL_law_792 : decode cL_law 792 = .ok (.iconst 0, 1) := by decide +kernel
theorem dL_law_793 : decode cL_law 793 = .ok (.ireturn, 1) := by decide +kernel
theorem dL_law_794 : decode cL_law 794 = .ok (.iinc 3 4, 3) := by decide +kernel
theorem dL_law_797 : decode cL_law 797 = .ok (.goto (-779), 3) := by decide +kernel
theorem dL_law_800 : decode cL_law 800 = .ok (.iconst 1, 1) := by decide +kernel
theorem dL_law_801 : decode cL_law 801 = .ok (.ireturn, 1) := by decide +kernel
end
section
/-! The J layer: a walk over a fixed set of cells, whose contents are a pair of functions -/
abbrev Sg : Type := (Nat → Int32) × (Nat → Nat → Int32)
def sI (g : Sg) (k : Nat) (v : Int32) : Sg := (fun j => if j = k then v else g.1 j, g.2)
def sF (g : Sg) (k : Nat) (f : Nat → Int32) : Sg := (g.1, fun j => if j = k then f else g.2 j)
abbrev ix (i : Int32) : Nat := i.toNatClampNeg
def rd (g : Sg) (k : Nat) (i : Int32) : Int32 := g.2 k (ix i)
def wr (g : Sg) (k : Nat) (i x : Int32) : Sg := sF g k (upd (g.2 k) (ix i) x)
abbrev CL : List vw_C := [(RX0, TX0, 8), (RX1, TX1, 3), (RX2, TX2, 2), (RX3, TX3, 4), (RX5, TX5, 17), (RX6, TX6, 11), (RX7, TX7, 31)]
def TB : List Cond := lw_tbl.filter goodWord
theorem tbm {w : Cond} (i : Nat) (h : lw_tbl[i]? = some w) (hg : goodWord w = true) : w ∈ TB := List.mem_filter.mpr ⟨List.mem_of_getElem? h, hg⟩
theorem TB_good : ∀ w ∈ TB, goodWord w = true := fun _ h => (List.mem_filter.mp h).2
theorem TB_of {args : Array Value} {s : State} (h : ∀ w ∈ lw_tbl, w.before args s = true) : ∀ w ∈ TB, w.before args s = true := fun w hw => h w (List.mem_filter.mp hw).1
/-- what a walk stands on beside its cells: nothing of it changes while nobody writes out of A -/
abbrev Et : Type := (Nat → Prop) → State → Heap → Prop
def EOK (E : Et) : Prop := (∀ (A : Nat → Prop) (u U : State) (H : Heap), u.vm.Alike U.vm → E A u H → E A U H) ∧ (∀ (A : Nat → Prop) (U : State) (H H1 : Heap), E A U H → (∀ a : Nat, a < H.size → ¬ A a → H1[a]? = H[a]?) → E A U H1) ∧ (∀ (A B : Nat → Prop) (U : State) (H : Heap), E A U H → (∀ q, B q → A q) → E B U H)
def lkp : List (Nat × Value) → Nat → Option Value
  | [], _ => none
  | (j, w) :: r, i => cond (Nat.beq j i) (some w) (lkp r i)
theorem lkp_mem : ∀ {lo : List (Nat × Value)} {i : Nat} {v : Value}, lkp lo i = some v → (i, v) ∈ lo
  | [], _, _, h => by cases h
  | (j, w) :: r, i, v, h => by
    unfold lkp at h
    cases hb : Nat.beq j i with
    | true =>
      rw [hb] at h
      have e : j = i := Nat.eq_of_beq_eq_true hb
      subst e
      cases h
      exact List.mem_cons_self
    | false =>
      rw [hb] at h
      exact List.mem_cons_of_mem _ (lkp_mem h)
def lset : List (Nat × Value) → Nat → Value → List (Nat × Value)
  | [], i, v => [(i, v)]
  | (j, w) :: r, i, v => cond (Nat.beq j i) ((i, v) :: lset r i v) (cond (Nat.ble i j) ((i, v) :: (j, w) :: lset r i v) ((j, w) :: lset r i v))
theorem lset_mem : ∀ {lo : List (Nat × Value)} {i : Nat} {v : Value} {q : Nat × Value}, q ∈ lset lo i v → q = (i, v) ∨ (q ∈ lo ∧ q.1 ≠ i)
  | [], i, v, q, h => by
    unfold lset at h
    exact Or.inl (List.mem_singleton.mp h)
  | (j, w) :: r, i, v, q, h => by
    unfold lset at h
    cases hb : Nat.beq j i with
    | true =>
      rw [hb] at h
      rcases List.mem_cons.mp h with h | h
      · exact Or.inl h
      · rcases lset_mem h with h | h
        · exact Or.inl h
        · exact Or.inr ⟨List.mem_cons_of_mem _ h.1, h.2⟩
    | false =>
      rw [hb] at h
      have hne : j ≠ i := fun e => by rw [e, Nat.beq_refl] at hb; cases hb
      have key : q ∈ (j, w) :: lset r i v → q = (i, v) ∨ (q ∈ (j, w) :: r ∧ q.1 ≠ i) := by
        intro h
        rcases List.mem_cons.mp h with h | h
        · exact Or.inr ⟨by rw [h]; exact List.mem_cons_self, by rw [h]; exact hne⟩
        · rcases lset_mem h with h | h
          · exact Or.inl h
          · exact Or.inr ⟨List.mem_cons_of_mem _ h.1, h.2⟩
      cases hb2 : Nat.ble i j with
      | true =>
        rw [hb2] at h
        rcases List.mem_cons.mp h with h | h
        · exact Or.inl h
        · exact key h
      | false =>
        rw [hb2] at h
        exact key h
def lpick (lo : List (Nat × Value)) : List Nat → List (Nat × Value)
  | [] => []
  | i :: r => match lkp lo i with
    | some v => (i, v) :: lpick lo r
    | none => lpick lo r
theorem lpick_mem {lo : List (Nat × Value)} : ∀ {ks : List Nat} {q : Nat × Value}, q ∈ lpick lo ks → q ∈ lo
  | [], _, h => by cases h
  | i :: r, q, h => by
    unfold lpick at h
    cases hk : lkp lo i with
    | none =>
      rw [hk] at h
      exact lpick_mem h
    | some v =>
      rw [hk] at h
      rcases List.mem_cons.mp h with h | h
      · rw [h]; exact lkp_mem hk
      · exact lpick_mem h
def lvs (ls : Array Slot) (n : Nat) (lo : List (Nat × Value)) : Prop := lv_has ls n lo ∧ ∀ q ∈ lo, q.2.category = 1
theorem lvs.at {ls : Array Slot} {n : Nat} {lo : List (Nat × Value)} (h : lvs ls n lo) {i : Nat} {v : Value} (hk : lkp lo i = some v) : ls[i]? = some (.val v) := h.1.2.2 (i, v) (lkp_mem hk)
theorem lvs.put {ls : Array Slot} {n i : Nat} {lo : List (Nat × Value)} {v : Value} (h : lv_has ls n ((i, v) :: lo.filter (fun q => !(q.1 == i) && !(q.1 + 1 == i && q.2.category == 2)))) (hc : ∀ q ∈ lo, q.2.category = 1) (hv : v.category = 1) : lvs ls n (lset lo i v) := by
  refine ⟨⟨h.1, h.2.1, fun q hq => ?_⟩, fun q hq => ?_⟩
  · rcases lset_mem hq with e | ⟨h1, h2⟩
    · exact h.2.2 q (by rw [e]; exact List.mem_cons_self)
    · refine h.2.2 q (List.mem_cons_of_mem _ (List.mem_filter.mpr ⟨h1, ?_⟩))
      simp [hc q h1, h2]
  · rcases lset_mem hq with e | ⟨h1, h2⟩
    · rw [e]; exact hv
    · exact hc q h1
theorem mabs_s : Cond.static Lib.Math.abs.name ∈ TB := tbm 425 (by decide +kernel) (by decide +kernel)
theorem mabs_c : Cond.code Lib.Math.abs.name Lib.Math.abs.code 1 (some .int) ∈ TB := tbm 426 (by decide +kernel) (by decide +kernel)
theorem mmin_s : Cond.static Lib.Math.min.name ∈ TB := tbm 448 (by decide +kernel) (by decide +kernel)
theorem mmin_c : Cond.code Lib.Math.min.name Lib.Math.min.code 2 (some .int) ∈ TB := tbm 449 (by decide +kernel) (by decide +kernel)
theorem mmax_s : Cond.static Lib.Math.max.name ∈ TB := tbm 445 (by decide +kernel) (by decide +kernel)
theorem mmax_c : Cond.code Lib.Math.max.name Lib.Math.max.code 2 (some .int) ∈ TB := tbm 446 (by decide +kernel) (by decide +kernel)
theorem math_i : Cond.initialized "java/lang/Math" ∈ TB := tbm 52 (by decide +kernel) (by decide +kernel)
section JAY
variable {p : Program} {l : Launch} {e : Env} {R : Room} {s : State} {m : MethodId} {args : Array Value} {below : List Frame} {meth : Method} {c : Code} {Q : State → Prop} {cc : ByteArray} {nL : Nat} {own : String} {D : va_G} {cI : ClassId} {wf : Sg → va_W} {A : Nat → Prop} {E : Et} {g g' : Sg} {pc : Nat} {lo : List (Nat × Value)} {st : List Value}
def JC (p : Program) (s : State) (m : MethodId) (args : Array Value) (c : Code) (cc : ByteArray) (nL : Nat) (own : String) (D : va_G) (cI : ClassId) (A : Nat → Prop) (E : Et) : Prop :=
  p.tables.exec = Jvm.exec ∧ c.code = cc ∧ c.maxLocals = nL ∧ s.vm.findClass own = some m.cls ∧ (∀ w ∈ TB, w.before args s = true) ∧ va_K D CL [(cI, .int)] s ∧ (∀ q : Nat, s.heap.size ≤ q → A q) ∧ E A s s.heap ∧ EOK E
def J (p : Program) (l : Launch) (e : Env) (R : Room) (s : State) (m : MethodId) (args : Array Value) (below : List Frame) (meth : Method) (c : Code) (D : va_G) (wf : Sg → va_W) (A : Nat → Prop) (nL : Nat) (Q : State → Prop) (g : Sg) (pc : Nat) (lo : List (Nat × Value)) (st : List Value) : Prop :=
  ∀ (H : Heap) (locs : List Loc) (ls : Array Slot), va_P D CL (wf g) H → va_D A (wf g) → va_S A s.heap H locs → lvs ls nL lo → W p l e R s m args below meth c H locs 0 0 Q (F0 m pc ls st)
theorem J.sub (C : JC p s m args c cc nL own D cI A E) (ks : List Nat) {lo' : List (Nat × Value)} (h : lpick lo ks = lo') (k : J p l e R s m args below meth c D wf A nL Q g pc lo' st) : J p l e R s m args below meth c D wf A nL Q g pc lo st := fun H locs ls hP hD hS hl => k H locs ls hP hD hS ⟨⟨hl.1.1, hl.1.2.1, fun q hq => hl.1.2.2 q (by rw [← h] at hq; exact lpick_mem hq)⟩, fun q hq => hl.2 q (by rw [← h] at hq; exact lpick_mem hq)⟩
theorem J.cong (C : JC p s m args c cc nL own D cI A E) {g' : Sg} (h : g = g') (k : J p l e R s m args below meth c D wf A nL Q g' pc lo st) : J p l e R s m args below meth c D wf A nL Q g pc lo st := h ▸ k
theorem J.iconst (C : JC p s m args c cc nL own D cI A E) {n : Int} (v : Int32) (hdg : decode cc pc = .ok (.iconst n, 1)) (hv : Int32.ofInt n = v) (k : J p l e R s m args below meth c D wf A nL Q g (pc + 1) lo (.int v :: st)) : J p l e R s m args below meth c D wf A nL Q g pc lo st := fun H locs ls hP hD hS hl => lv_iconst C.1 C.2.1 hdg hv (k H locs ls hP hD hS hl)
theorem J.bipush (C : JC p s m args c cc nL own D cI A E) {n : Int} (v : Int32) (hdg : decode cc pc = .ok (.bipush n, 2)) (hv : (Int8.ofInt n).toInt32 = v) (k : J p l e R s m args below meth c D wf A nL Q g (pc + 2) lo (.int v :: st)) : J p l e R s m args below meth c D wf A nL Q g pc lo st := fun H locs ls hP hD hS hl => lv_bipush C.1 C.2.1 hdg hv (k H locs ls hP hD hS hl)
theorem J.sipush (C : JC p s m args c cc nL own D cI A E) {n : Int} (v : Int32) (hdg : decode cc pc = .ok (.sipush n, 3)) (hv : (Int16.ofInt n).toInt32 = v) (k : J p l e R s m args below meth c D wf A nL Q g (pc + 3) lo (.int v :: st)) : J p l e R s m args below meth c D wf A nL Q g pc lo st := fun H locs ls hP hD hS hl => lv_sipush C.1 C.2.1 hdg hv (k H locs ls hP hD hS hl)
theorem J.ldc (C : JC p s m args c cc nL own D cI A E) {index : Nat} {v : Int32} (hconst : Jvm.Cond.constant own index v ∈ TB) (hdg : decode cc pc = .ok (.ldc index, 2)) (k : J p l e R s m args below meth c D wf A nL Q g (pc + 2) lo (.int v :: st)) : J p l e R s m args below meth c D wf A nL Q g pc lo st := fun H locs ls hP hD hS hl => lv_ldc C.1 C.2.1 C.2.2.2.1 (C.2.2.2.2.1 _ hconst) hdg (k H locs ls hP hD hS hl)
theorem J.iload_n (C : JC p s m args c cc nL own D cI A E) {k0 : Fin 4} {i : Nat} {x : Int32} (hdg : decode cc pc = .ok (.iload_n k0, 1)) (hi : (k0 : Nat) = i) (hl0 : lkp lo i = some (.int x)) (k : J p l e R s m args below meth c D wf A nL Q g (pc + 1) lo (.int x :: st)) : J p l e R s m args below meth c D wf A nL Q g pc lo st := fun H locs ls hP hD hS hl => lv_iload_n C.1 C.2.1 hdg hi (hl.at hl0) (k H locs ls hP hD hS hl)
theorem J.iload (C : JC p s m args c cc nL own D cI A E) {i : Nat} {x : Int32} (hdg : decode cc pc = .ok (.iload i, 2)) (hl0 : lkp lo i = some (.int x)) (k : J p l e R s m args below meth c D wf A nL Q g (pc + 2) lo (.int x :: st)) : J p l e R s m args below meth c D wf A nL Q g pc lo st := fun H locs ls hP hD hS hl => lv_iload C.1 C.2.1 hdg (hl.at hl0) (k H locs ls hP hD hS hl)
theorem J.aload_n (C : JC p s m args c cc nL own D cI A E) {k0 : Fin 4} {i : Nat} {x : Nat} (hdg : decode cc pc = .ok (.aload_n k0, 1)) (hi : (k0 : Nat) = i) (hl0 : lkp lo i = some (.ref x)) (k : J p l e R s m args below meth c D wf A nL Q g (pc + 1) lo (.ref x :: st)) : J p l e R s m args below meth c D wf A nL Q g pc lo st := fun H locs ls hP hD hS hl => lv_aload_n C.1 C.2.1 hdg hi (hl.at hl0) (k H locs ls hP hD hS hl)
theorem J.aload (C : JC p s m args c cc nL own D cI A E) {i : Nat} {x : Nat} (hdg : decode cc pc = .ok (.aload i, 2)) (hl0 : lkp lo i = some (.ref x)) (k : J p l e R s m args below meth c D wf A nL Q g (pc + 2) lo (.ref x :: st)) : J p l e R s m args below meth c D wf A nL Q g pc lo st := fun H locs ls hP hD hS hl => lv_aload C.1 C.2.1 hdg (hl.at hl0) (k H locs ls hP hD hS hl)
theorem J.istore_n (C : JC p s m args c cc nL own D cI A E) {k0 : Fin 4} {i : Nat} {x : Int32} (hdg : decode cc pc = .ok (.istore_n k0, 1)) (hi : (k0 : Nat) = i) (hn : i < nL) (k : J p l e R s m args below meth c D wf A nL Q g (pc + 1) (lset lo i (.int x)) st) : J p l e R s m args below meth c D wf A nL Q g pc lo (.int x :: st) := fun H locs ls hP hD hS hl => lv_istore_n C.1 C.2.1 hdg hi hl.1 hn rfl (fun ls' h' => k H locs ls' hP hD hS (lvs.put h' hl.2 rfl))
theorem J.istore (C : JC p s m args c cc nL own D cI A E) {i : Nat} {x : Int32} (hdg : decode cc pc = .ok (.istore i, 2)) (hn : i < nL) (k : J p l e R s m args below meth c D wf A nL Q g (pc + 2) (lset lo i (.int x)) st) : J p l e R s m args below meth c D wf A nL Q g pc lo (.int x :: st) := fun H locs ls hP hD hS hl => lv_istore C.1 C.2.1 hdg hl.1 hn rfl (fun ls' h' => k H locs ls' hP hD hS (lvs.put h' hl.2 rfl))
theorem J.iinc (C : JC p s m args c cc nL own D cI A E) {i : Nat} {n : Int} {x : Int32} (v : Int32) (hdg : decode cc pc = .ok (.iinc i n, 3)) (hv : Int32.ofInt n = v) (hl0 : lkp lo i = some (.int x)) (hn : i < nL) (k : J p l e R s m args below meth c D wf A nL Q g (pc + 3) (lset lo i (.int (x + v))) st) : J p l e R s m args below meth c D wf A nL Q g pc lo st := by
  intro H locs ls hP hD hS hl
  obtain ⟨j, hj⟩ := List.getElem?_of_mem (lkp_mem hl0)
  exact lv_iinc (k := j) C.1 C.2.1 hdg hl.1 hj (by rw [hv]) hn rfl (fun ls' h' => k H locs ls' hP hD hS (lvs.put h' hl.2 rfl))
theorem J.iadd (C : JC p s m args c cc nL own D cI A E) {x y : Int32} (hdg : decode cc pc = .ok (.iadd, 1)) (k : J p l e R s m args below meth c D wf A nL Q g (pc + 1) lo (.int (x + y) :: st)) : J p l e R s m args below meth c D wf A nL Q g pc lo (.int y :: .int x :: st) := fun H locs ls hP hD hS hl => lv_iadd C.1 C.2.1 hdg (k H locs ls hP hD hS hl)
theorem J.isub (C : JC p s m args c cc nL own D cI A E) {x y : Int32} (hdg : decode cc pc = .ok (.isub, 1)) (k : J p l e R s m args below meth c D wf A nL Q g (pc + 1) lo (.int (x - y) :: st)) : J p l e R s m args below meth c D wf A nL Q g pc lo (.int y :: .int x :: st) := fun H locs ls hP hD hS hl => lv_isub C.1 C.2.1 hdg (k H locs ls hP hD hS hl)
theorem J.imul (C : JC p s m args c cc nL own D cI A E) {x y : Int32} (hdg : decode cc pc = .ok (.imul, 1)) (k : J p l e R s m args below meth c D wf A nL Q g (pc + 1) lo (.int (x * y) :: st)) : J p l e R s m args below meth c D wf A nL Q g pc lo (.int y :: .int x :: st) := fun H locs ls hP hD hS hl => lv_imul C.1 C.2.1 hdg (k H locs ls hP hD hS hl)
theorem J.iand (C : JC p s m args c cc nL own D cI A E) {x y : Int32} (hdg : decode cc pc = .ok (.iand, 1)) (k : J p l e R s m args below meth c D wf A nL Q g (pc + 1) lo (.int (x &&& y) :: st)) : J p l e R s m args below meth c D wf A nL Q g pc lo (.int y :: .int x :: st) := fun H locs ls hP hD hS hl => lv_iand C.1 C.2.1 hdg (k H locs ls hP hD hS hl)
theorem J.ior (C : JC p s m args c cc nL own D cI A E) {x y : Int32} (hdg : decode cc pc = .ok (.ior, 1)) (k : J p l e R s m args below meth c D wf A nL Q g (pc + 1) lo (.int (x ||| y) :: st)) : J p l e R s m args below meth c D wf A nL Q g pc lo (.int y :: .int x :: st) := fun H locs ls hP hD hS hl => lv_ior C.1 C.2.1 hdg (k H locs ls hP hD hS hl)
theorem J.ixor (C : JC p s m args c cc nL own D cI A E) {x y : Int32} (hdg : decode cc pc = .ok (.ixor, 1)) (k : J p l e R s m args below meth c D wf A nL Q g (pc + 1) lo (.int (x ^^^ y) :: st)) : J p l e R s m args below meth c D wf A nL Q g pc lo (.int y :: .int x :: st) := fun H locs ls hP hD hS hl => lv_ixor C.1 C.2.1 hdg (k H locs ls hP hD hS hl)
theorem J.ishl (C : JC p s m args c cc nL own D cI A E) {x y : Int32} (hdg : decode cc pc = .ok (.ishl, 1)) (k : J p l e R s m args below meth c D wf A nL Q g (pc + 1) lo (.int (x <<< (y &&& 31)) :: st)) : J p l e R s m args below meth c D wf A nL Q g pc lo (.int y :: .int x :: st) := fun H locs ls hP hD hS hl => lv_ishl C.1 C.2.1 hdg (k H locs ls hP hD hS hl)
theorem J.ishr (C : JC p s m args c cc nL own D cI A E) {x y : Int32} (hdg : decode cc pc = .ok (.ishr, 1)) (k : J p l e R s m args below meth c D wf A nL Q g (pc + 1) lo (.int (x >>> (y &&& 31)) :: st)) : J p l e R s m args below meth c D wf A nL Q g pc lo (.int y :: .int x :: st) := fun H locs ls hP hD hS hl => lv_ishr C.1 C.2.1 hdg (k H locs ls hP hD hS hl)
theorem J.idiv (C : JC p s m args c cc nL own D cI A E) {x y : Int32} (hdg : decode cc pc = .ok (.idiv, 1)) (hne : ¬ y = 0) (k : J p l e R s m args below meth c D wf A nL Q g (pc + 1) lo (.int (x / y) :: st)) : J p l e R s m args below meth c D wf A nL Q g pc lo (.int y :: .int x :: st) := fun H locs ls hP hD hS hl => lv_idiv C.1 C.2.1 hdg hne (k H locs ls hP hD hS hl)
theorem J.irem (C : JC p s m args c cc nL own D cI A E) {x y : Int32} (hdg : decode cc pc = .ok (.irem, 1)) (hne : ¬ y = 0) (k : J p l e R s m args below meth c D wf A nL Q g (pc + 1) lo (.int (x - x / y * y) :: st)) : J p l e R s m args below meth c D wf A nL Q g pc lo (.int y :: .int x :: st) := fun H locs ls hP hD hS hl => lv_irem C.1 C.2.1 hdg hne (k H locs ls hP hD hS hl)
theorem J.ineg (C : JC p s m args c cc nL own D cI A E) {x : Int32} (hdg : decode cc pc = .ok (.ineg, 1)) (k : J p l e R s m args below meth c D wf A nL Q g (pc + 1) lo (.int (-x) :: st)) : J p l e R s m args below meth c D wf A nL Q g pc lo (.int x :: st) := fun H locs ls hP hD hS hl => lv_ineg C.1 C.2.1 hdg (k H locs ls hP hD hS hl)
theorem J.dup (C : JC p s m args c cc nL own D cI A E) {va : Value} (hdg : decode cc pc = .ok (.dup, 1)) (hva : va.category = 1) (k : J p l e R s m args below meth c D wf A nL Q g (pc + 1) lo (va :: va :: st)) : J p l e R s m args below meth c D wf A nL Q g pc lo (va :: st) := fun H locs ls hP hD hS hl => lv_dup C.1 C.2.1 hdg hva (k H locs ls hP hD hS hl)
theorem J.dup_x1 (C : JC p s m args c cc nL own D cI A E) {va vb : Value} (hdg : decode cc pc = .ok (.dup_x1, 1)) (hva : va.category = 1) (hvb : vb.category = 1) (k : J p l e R s m args below meth c D wf A nL Q g (pc + 1) lo (va :: vb :: va :: st)) : J p l e R s m args below meth c D wf A nL Q g pc lo (va :: vb :: st) := fun H locs ls hP hD hS hl => lv_dup_x1 C.1 C.2.1 hdg hva hvb (k H locs ls hP hD hS hl)
theorem J.dup2 (C : JC p s m args c cc nL own D cI A E) {va vb : Value} (hdg : decode cc pc = .ok (.dup2, 1)) (hva : va.category = 1) (hvb : vb.category = 1) (k : J p l e R s m args below meth c D wf A nL Q g (pc + 1) lo (va :: vb :: va :: vb :: st)) : J p l e R s m args below meth c D wf A nL Q g pc lo (va :: vb :: st) := fun H locs ls hP hD hS hl => lv_dup2_11 C.1 C.2.1 hdg hva hvb (k H locs ls hP hD hS hl)
theorem J.pop (C : JC p s m args c cc nL own D cI A E) {va : Value} (hdg : decode cc pc = .ok (.pop, 1)) (hva : va.category = 1) (k : J p l e R s m args below meth c D wf A nL Q g (pc + 1) lo st) : J p l e R s m args below meth c D wf A nL Q g pc lo (va :: st) := fun H locs ls hP hD hS hl => lv_pop C.1 C.2.1 hdg hva (k H locs ls hP hD hS hl)
theorem J.goto (C : JC p s m args c cc nL own D cI A E) {off : Int} (tgt : Nat) (hdg : decode cc pc = .ok (.goto off, 3)) (ht : (pc : Int) + off = (tgt : Int)) (k : J p l e R s m args below meth c D wf A nL Q g tgt lo st) : J p l e R s m args below meth c D wf A nL Q g pc lo st := fun H locs ls hP hD hS hl => lv_goto C.1 C.2.1 hdg ht (k H locs ls hP hD hS hl)
theorem J.if_eq (C : JC p s m args c cc nL own D cI A E) {x : Int32} {off : Int} (tgt : Nat) (hdg : decode cc pc = .ok (.ifCond .eq off, 3)) (ht : (pc : Int) + off = (tgt : Int)) (kt : x = 0 → J p l e R s m args below meth c D wf A nL Q g tgt lo st) (kf : ¬ x = 0 → J p l e R s m args below meth c D wf A nL Q g (pc + 3) lo st) : J p l e R s m args below meth c D wf A nL Q g pc lo (.int x :: st) := fun H locs ls hP hD hS hl => lv_if_eq C.1 C.2.1 hdg ht (fun h => kt h H locs ls hP hD hS hl) (fun h => kf h H locs ls hP hD hS hl)
theorem J.if_ne (C : JC p s m args c cc nL own D cI A E) {x : Int32} {off : Int} (tgt : Nat) (hdg : decode cc pc = .ok (.ifCond .ne off, 3)) (ht : (pc : Int) + off = (tgt : Int)) (kt : ¬ x = 0 → J p l e R s m args below meth c D wf A nL Q g tgt lo st) (kf : x = 0 → J p l e R s m args below meth c D wf A nL Q g (pc + 3) lo st) : J p l e R s m args below meth c D wf A nL Q g pc lo (.int x :: st) := fun H locs ls hP hD hS hl => lv_if_ne C.1 C.2.1 hdg ht (fun h => kt h H locs ls hP hD hS hl) (fun h => kf h H locs ls hP hD hS hl)
theorem J.if_lt (C : JC p s m args c cc nL own D cI A E) {x : Int32} {off : Int} (tgt : Nat) (hdg : decode cc pc = .ok (.ifCond .lt off, 3)) (ht : (pc : Int) + off = (tgt : Int)) (kt : x < 0 → J p l e R s m args below meth c D wf A nL Q g tgt lo st) (kf : ¬ x < 0 → J p l e R s m args below meth c D wf A nL Q g (pc + 3) lo st) : J p l e R s m args below meth c D wf A nL Q g pc lo (.int x :: st) := fun H locs ls hP hD hS hl => lv_if_lt C.1 C.2.1 hdg ht (fun h => kt h H locs ls hP hD hS hl) (fun h => kf h H locs ls hP hD hS hl)
theorem J.if_ge (C : JC p s m args c cc nL own D cI A E) {x : Int32} {off : Int} (tgt : Nat) (hdg : decode cc pc = .ok (.ifCond .ge off, 3)) (ht : (pc : Int) + off = (tgt : Int)) (kt : 0 ≤ x → J p l e R s m args below meth c D wf A nL Q g tgt lo st) (kf : ¬ 0 ≤ x → J p l e R s m args below meth c D wf A nL Q g (pc + 3) lo st) : J p l e R s m args below meth c D wf A nL Q g pc lo (.int x :: st) := fun H locs ls hP hD hS hl => lv_if_ge C.1 C.2.1 hdg ht (fun h => kt h H locs ls hP hD hS hl) (fun h => kf h H locs ls hP hD hS hl)
theorem J.if_gt (C : JC p s m args c cc nL own D cI A E) {x : Int32} {off : Int} (tgt : Nat) (hdg : decode cc pc = .ok (.ifCond .gt off, 3)) (ht : (pc : Int) + off = (tgt : Int)) (kt : 0 < x → J p l e R s m args below meth c D wf A nL Q g tgt lo st) (kf : ¬ 0 < x → J p l e R s m args below meth c D wf A nL Q g (pc + 3) lo st) : J p l e R s m args below meth c D wf A nL Q g pc lo (.int x :: st) := fun H locs ls hP hD hS hl => lv_if_gt C.1 C.2.1 hdg ht (fun h => kt h H locs ls hP hD hS hl) (fun h => kf h H locs ls hP hD hS hl)
theorem J.if_le (C : JC p s m args c cc nL own D cI A E) {x : Int32} {off : Int} (tgt : Nat) (hdg : decode cc pc = .ok (.ifCond .le off, 3)) (ht : (pc : Int) + off = (tgt : Int)) (kt : x ≤ 0 → J p l e R s m args below meth c D wf A nL Q g tgt lo st) (kf : ¬ x ≤ 0 → J p l e R s m args below meth c D wf A nL Q g (pc + 3) lo st) : J p l e R s m args below meth c D wf A nL Q g pc lo (.int x :: st) := fun H locs ls hP hD hS hl => lv_if_le C.1 C.2.1 hdg ht (fun h => kt h H locs ls hP hD hS hl) (fun h => kf h H locs ls hP hD hS hl)
theorem J.icmp_eq (C : JC p s m args c cc nL own D cI A E) {x y : Int32} {off : Int} (tgt : Nat) (hdg : decode cc pc = .ok (.if_icmp .eq off, 3)) (ht : (pc : Int) + off = (tgt : Int)) (kt : x = y → J p l e R s m args below meth c D wf A nL Q g tgt lo st) (kf : ¬ x = y → J p l e R s m args below meth c D wf A nL Q g (pc + 3) lo st) : J p l e R s m args below meth c D wf A nL Q g pc lo (.int y :: .int x :: st) := fun H locs ls hP hD hS hl => lv_icmp_eq C.1 C.2.1 hdg ht (fun h => kt h H locs ls hP hD hS hl) (fun h => kf h H locs ls hP hD hS hl)
theorem J.icmp_ne (C : JC p s m args c cc nL own D cI A E) {x y : Int32} {off : Int} (tgt : Nat) (hdg : decode cc pc = .ok (.if_icmp .ne off, 3)) (ht : (pc : Int) + off = (tgt : Int)) (kt : ¬ x = y → J p l e R s m args below meth c D wf A nL Q g tgt lo st) (kf : x = y → J p l e R s m args below meth c D wf A nL Q g (pc + 3) lo st) : J p l e R s m args below meth c D wf A nL Q g pc lo (.int y :: .int x :: st) := fun H locs ls hP hD hS hl => lv_icmp_ne C.1 C.2.1 hdg ht (fun h => kt h H locs ls hP hD hS hl) (fun h => kf h H locs ls hP hD hS hl)
theorem J.icmp_lt (C : JC p s m args c cc nL own D cI A E) {x y : Int32} {off : Int} (tgt : Nat) (hdg : decode cc pc = .ok (.if_icmp .lt off, 3)) (ht : (pc : Int) + off = (tgt : Int)) (kt : x < y → J p l e R s m args below meth c D wf A nL Q g tgt lo st) (kf : ¬ x < y → J p l e R s m args below meth c D wf A nL Q g (pc + 3) lo st) : J p l e R s m args below meth c D wf A nL Q g pc lo (.int y :: .int x :: st) := fun H locs ls hP hD hS hl => lv_icmp_lt C.1 C.2.1 hdg ht (fun h => kt h H locs ls hP hD hS hl) (fun h => kf h H locs ls hP hD hS hl)
theorem J.icmp_ge (C : JC p s m args c cc nL own D cI A E) {x y : Int32} {off : Int} (tgt : Nat) (hdg : decode cc pc = .ok (.if_icmp .ge off, 3)) (ht : (pc : Int) + off = (tgt : Int)) (kt : y ≤ x → J p l e R s m args below meth c D wf A nL Q g tgt lo st) (kf : ¬ y ≤ x → J p l e R s m args below meth c D wf A nL Q g (pc + 3) lo st) : J p l e R s m args below meth c D wf A nL Q g pc lo (.int y :: .int x :: st) := fun H locs ls hP hD hS hl => lv_icmp_ge C.1 C.2.1 hdg ht (fun h => kt h H locs ls hP hD hS hl) (fun h => kf h H locs ls hP hD hS hl)
theorem J.icmp_gt (C : JC p s m args c cc nL own D cI A E) {x y : Int32} {off : Int} (tgt : Nat) (hdg : decode cc pc = .ok (.if_icmp .gt off, 3)) (ht : (pc : Int) + off = (tgt : Int)) (kt : y < x → J p l e R s m args below meth c D wf A nL Q g tgt lo st) (kf : ¬ y < x → J p l e R s m args below meth c D wf A nL Q g (pc + 3) lo st) : J p l e R s m args below meth c D wf A nL Q g pc lo (.int y :: .int x :: st) := fun H locs ls hP hD hS hl => lv_icmp_gt C.1 C.2.1 hdg ht (fun h => kt h H locs ls hP hD hS hl) (fun h => kf h H locs ls hP hD hS hl)
theorem J.icmp_le (C : JC p s m args c cc nL own D cI A E) {x y : Int32} {off : Int} (tgt : Nat) (hdg : decode cc pc = .ok (.if_icmp .le off, 3)) (ht : (pc : Int) + off = (tgt : Int)) (kt : x ≤ y → J p l e R s m args below meth c D wf A nL Q g tgt lo st) (kf : ¬ x ≤ y → J p l e R s m args below meth c D wf A nL Q g (pc + 3) lo st) : J p l e R s m args below meth c D wf A nL Q g pc lo (.int y :: .int x :: st) := fun H locs ls hP hD hS hl => lv_icmp_le C.1 C.2.1 hdg ht (fun h => kt h H locs ls hP hD hS hl) (fun h => kf h H locs ls hP hD hS hl)
theorem J.get (C : JC p s m args c cc nL own D cI A E) (q0 : Nat) {a ci : Nat} {fs : List Value} {Cn : String} {T : u_T} {N : Nat} (he : (wf g)[q0]? = some (a, .inr (ci, fs))) (hc : CL[ci]? = some (Cn, T, N)) (hin : ∀ w ∈ u_ws Cn T N, w ∈ TB) (k : Nat) (hk : k < N) {index : Nat} (hlink : Cond.fieldLink own index (T k).1 (T k).2.1 (T k).2.2.1 ∈ TB) {v : Value} (hv : fs[k]? = some v) (hdg : decode cc pc = .ok (.getfield index, 3)) (kk : J p l e R s m args below meth c D wf A nL Q g (pc + 3) lo (v :: st)) : J p l e R s m args below meth c D wf A nL Q g pc lo (.ref a :: st) := fun H locs ls hP hD hS hl => va_get C.1 C.2.1 C.2.2.2.2.1 hin C.2.2.2.1 C.2.2.2.2.2.1 hP q0 he hc k hk (C.2.2.2.2.1 _ hlink) (fun _ h9 => h9) hv hdg (kk H locs ls hP hD hS hl)
theorem J.put (C : JC p s m args c cc nL own D cI A E) (q0 : Nat) {a ci : Nat} {fs : List Value} {Cn : String} {T : u_T} {N : Nat} (he : (wf g)[q0]? = some (a, .inr (ci, fs))) (hc : CL[ci]? = some (Cn, T, N)) (hin : ∀ w ∈ u_ws Cn T N, w ∈ TB) (ty0 : Nat → FieldType) (hty : ∀ k, k < N → parseFieldDescriptor (T k).2.2.1 = some (ty0 k)) (hnm : ∀ a, a < N → ∀ b, b < N → a ≠ b → (T a).2.1 ≠ (T b).2.1) (k : Nat) (hk : k < N) {index : Nat} (hlink : Cond.fieldLink own index (T k).1 (T k).2.1 (T k).2.2.1 ∈ TB) (hfin : (T k).2.2.2 = false) {ty : FieldType} {v : Value} (hd : parseFieldDescriptor (T k).2.2.1 = some ty) (hn : narrow ty v = v) (hfit : fits ty v = true) (hlen : k < fs.length) (hset : (wf g).set q0 (a, .inr (ci, fs.set k v)) = wf g') (hdg : decode cc pc = .ok (.putfield index, 3)) (kk : J p l e R s m args below meth c D wf A nL Q g' (pc + 3) lo st) : J p l e R s m args below meth c D wf A nL Q g pc lo (v :: .ref a :: st) := fun H locs ls hP hD hS hl => va_put C.1 C.2.1 C.2.2.2.2.1 hin ty0 hty hnm C.2.2.2.1 C.2.2.2.2.2.1 hP hD hS q0 he hc k hk (C.2.2.2.2.1 _ hlink) (fun _ h9 => h9) hfin hd hn hfit hlen hdg (fun H1 locs1 hP1 hD1 hS1 => kk H1 locs1 ls (hset ▸ hP1) (hset ▸ hD1) hS1 hl)
def isArr (wf : Sg → va_W) (cI : ClassId) (a k n : Nat) : Prop := n < 2 ^ 31 ∧ ∃ j : Nat, ∀ g : Sg, (wf g)[j]? = some (a, .inl (cI, n, .inl (g.2 k))) ∧ ∀ f : Nat → Int32, (wf g).set j (a, .inl (cI, n, .inl f)) = wf (sF g k f)
theorem J.iald (C : JC p s m args c cc nL own D cI A E) {a k n : Nat} (ha : isArr wf cI a k n) {i : Int32} (hin : vp_in i n) (hdg : decode cc pc = .ok (.iaload, 1)) (kk : J p l e R s m args below meth c D wf A nL Q g (pc + 1) lo (.int (rd g k i) :: st)) : J p l e R s m args below meth c D wf A nL Q g pc lo (.int i :: .ref a :: st) := by
  intro H locs ls hP hD hS hl
  obtain ⟨-, j, hj⟩ := ha
  exact va_iald C.1 C.2.1 C.2.2.2.2.2.1 hP j 0 (hj g).1 rfl hin hdg (kk H locs ls hP hD hS hl)
theorem J.iast (C : JC p s m args c cc nL own D cI A E) {a k n : Nat} (ha : isArr wf cI a k n) {i x : Int32} (hin : vp_in i n) (hdg : decode cc pc = .ok (.iastore, 1)) (kk : J p l e R s m args below meth c D wf A nL Q (wr g k i x) (pc + 1) lo st) : J p l e R s m args below meth c D wf A nL Q g pc lo (.int x :: .int i :: .ref a :: st) := by
  intro H locs ls hP hD hS hl
  obtain ⟨-, j, hj⟩ := ha
  refine va_iast C.1 C.2.1 C.2.2.2.2.2.1 hP hD hS j 0 (hj g).1 rfl hin hdg (fun H1 locs1 hP1 hD1 hS1 => ?_)
  rw [(hj g).2] at hP1 hD1
  exact kk H1 locs1 ls hP1 hD1 hS1 hl
theorem J.alen (C : JC p s m args c cc nL own D cI A E) {a k n : Nat} (ha : isArr wf cI a k n) (hdg : decode cc pc = .ok (.arraylength, 1)) (kk : J p l e R s m args below meth c D wf A nL Q g (pc + 1) lo (.int (nI n) :: st)) : J p l e R s m args below meth c D wf A nL Q g pc lo (.ref a :: st) := by
  intro H locs ls hP hD hS hl
  obtain ⟨-, j, hj⟩ := ha
  exact va_alen C.1 C.2.1 C.2.2.2.2.2.1 hP j 0 (hj g).1 rfl rfl hdg (kk H locs ls hP hD hS hl)
def iabs (x : Int32) : Int32 := if 0 ≤ x then x else 0 - x
def imin (x y : Int32) : Int32 := if y < x then y else x
def imax (x y : Int32) : Int32 := if x < y then y else x
theorem J.mabs (C : JC p s m args c cc nL own D cI A E) {index : Nat} (hlink : Cond.methodLink own index Lib.Math.abs.name ∈ TB) (hf : 1 ≤ R.frames) (hlo : (st.map fun v => v.category).sum + 13 ≤ R.locals) {x : Int32} (hdg : decode cc pc = .ok (.invokestatic index, 3)) (kk : J p l e R s m args below meth c D wf A nL Q g (pc + 3) lo (.int (iabs x) :: st)) : J p l e R s m args below meth c D wf A nL Q g pc lo (.int x :: st) := fun H locs ls hP hD hS hl => va_mabs C.1 C.2.1 (C.2.2.1.trans hl.1.1.symm) C.2.2.2.1 (C.2.2.2.2.1 _ hlink) (C.2.2.2.2.1 _ mabs_s) (C.2.2.2.2.1 _ math_i) (C.2.2.2.2.1 _ mabs_c) hf hlo (Nat.zero_le _) (Nat.zero_le _) hdg (kk H locs ls hP hD hS hl)
theorem J.mmin (C : JC p s m args c cc nL own D cI A E) {index : Nat} (hlink : Cond.methodLink own index Lib.Math.min.name ∈ TB) (hf : 1 ≤ R.frames) (hlo : (st.map fun v => v.category).sum + 13 ≤ R.locals) {x y : Int32} (hdg : decode cc pc = .ok (.invokestatic index, 3)) (kk : J p l e R s m args below meth c D wf A nL Q g (pc + 3) lo (.int (imin x y) :: st)) : J p l e R s m args below meth c D wf A nL Q g pc lo (.int y :: .int x :: st) := fun H locs ls hP hD hS hl => va_mmin C.1 C.2.1 (C.2.2.1.trans hl.1.1.symm) C.2.2.2.1 (C.2.2.2.2.1 _ hlink) (C.2.2.2.2.1 _ mmin_s) (C.2.2.2.2.1 _ math_i) (C.2.2.2.2.1 _ mmin_c) hf hlo (Nat.zero_le _) (Nat.zero_le _) hdg (kk H locs ls hP hD hS hl)
theorem J.mmax (C : JC p s m args c cc nL own D cI A E) {index : Nat} (hlink : Cond.methodLink own index Lib.Math.max.name ∈ TB) (hf : 1 ≤ R.frames) (hlo : (st.map fun v => v.category).sum + 13 ≤ R.locals) {x y : Int32} (hdg : decode cc pc = .ok (.invokestatic index, 3)) (kk : J p l e R s m args below meth c D wf A nL Q g (pc + 3) lo (.int (imax x y) :: st)) : J p l e R s m args below meth c D wf A nL Q g pc lo (.int y :: .int x :: st) := fun H locs ls hP hD hS hl => va_mmax C.1 C.2.1 (C.2.2.1.trans hl.1.1.symm) C.2.2.2.1 (C.2.2.2.2.1 _ hlink) (C.2.2.2.2.1 _ mmax_s) (C.2.2.2.2.1 _ math_i) (C.2.2.2.2.1 _ mmax_c) hf hlo (Nat.zero_le _) (Nat.zero_le _) hdg (kk H locs ls hP hD hS hl)
def PreC (E : Et) (D : va_G) (cI : ClassId) (wf : Sg → va_W) (g : Sg) (sz : Nat) : State → Prop := fun U => U.heap.size = sz ∧ va_P D CL (wf g) U.heap ∧ va_K D CL [(cI, .int)] U ∧ va_D (fun _ => True) (wf g) ∧ E (va_A (wf g) sz) U U.heap
abbrev QI (D : va_G) (wf : Sg → va_W) (g : Sg) (sz : Nat) (r : Int32 × Sg) : Array Value → State → Outcome → State → Prop := va_Qi (fun (r' : Int32) (_ : Unit) => r' = r.1) (fun _ t => va_P D CL (wf r.2) t.heap ∧ va_D (va_A (wf g) sz) (wf r.2)) (va_A (wf g) sz)
abbrev QV (D : va_G) (wf : Sg → va_W) (g : Sg) (sz : Nat) (r : Sg) : Array Value → State → Outcome → State → Prop := va_Qv (fun (_ : Unit) => True) (fun _ t => va_P D CL (wf r) t.heap ∧ va_D (va_A (wf g) sz) (wf r)) (va_A (wf g) sz)
abbrev RM (fr lc : Nat) : Room := { frames := fr, cells := 0, slots := 0, locals := lc }
/-- a method's contract: from the cells of g it answers r.1 and leaves the cells of r.2 -/
def CTi (l : Launch) (E : Et) (D : va_G) (cI : ClassId) (wf : Sg → va_W) (y : MethodName) (cc : ByteArray) (maxL : Nat) (ret : Option FieldType) (fr lc : Nat) (av : List Value) (g : Sg) (r : Int32 × Sg) : Prop := ∀ sz : Nat, Met l y (.code y cc maxL ret :: TB) (RM fr lc) (va_Pc av (PreC E D cI wf g sz)) (QI D wf g sz r) 0 0 (va_A (wf g) sz)
def CTv (l : Launch) (E : Et) (D : va_G) (cI : ClassId) (wf : Sg → va_W) (y : MethodName) (cc : ByteArray) (maxL : Nat) (fr lc : Nat) (av : List Value) (g r : Sg) : Prop := ∀ sz : Nat, Met l y (.code y cc maxL none :: TB) (RM fr lc) (va_Pc av (PreC E D cI wf g sz)) (QV D wf g sz r) 0 0 (va_A (wf g) sz)
theorem PreC.blind (hE : EOK E) (av : List Value) (g : Sg) (sz : Nat) : FrameBlind (va_Pc av (PreC E D cI wf g sz)) := fun a U gg mk q => by
  obtain ⟨q0, q1, qP, qK, qD, qE⟩ := q
  exact ⟨q0, q1, qP, va_K.moved (u := U) (U := U.calling gg mk a) (Vm.Alike.refl U.vm) qK, qD, hE.1 _ U (U.calling gg mk a) _ (Vm.Alike.refl U.vm) qE⟩
theorem J.freeA (C : JC p s m args c cc nL own D cI A E) {H : Heap} {locs : List Loc} (hD : va_D A (wf g)) (hS : va_S A s.heap H locs) : ∀ q, va_A (wf g) H.size q → A q := by
  intro q h
  rcases h with ⟨k, e, h⟩ | h
  · exact hD.2 k _ h
  · exact C.2.2.2.2.2.2.1 q (Nat.le_trans hS.1 h)
theorem J.pre (C : JC p s m args c cc nL own D cI A E) {H : Heap} {locs : List Loc} (hP : va_P D CL (wf g) H) (hD : va_D A (wf g)) (hS : va_S A s.heap H locs) {U : State} (hU : U.heap = H) (hW : s.WarmedH U.vm) : PreC E D cI wf g H.size U := by
  obtain ⟨hx, hb, hml, hown, hts, hK, hA, hE, hEK⟩ := id C
  refine ⟨by rw [hU], by rw [hU]; exact hP, va_K.moved hW.alike hK, hD.weaken (fun _ _ _ _ => trivial), ?_⟩
  rw [hU]
  exact hEK.1 _ s U _ hW.alike (hEK.2.2 A _ s H (hEK.2.1 A s s.heap H hE hS.2.1) (J.freeA C hD hS))
def LkS (y : MethodName) (cc : ByteArray) (maxL : Nat) (ret : Option FieldType) (n : Nat) : Prop := Cond.static y ∈ TB ∧ Cond.initialized y.cls ∈ TB ∧ Cond.code y cc maxL ret ∈ TB ∧ (y.cls ≠ "java/lang/invoke/MethodHandle" ∧ y.cls ≠ "java/lang/invoke/VarHandle" ∧ (parseMethodDescriptor y.desc).map (fun d => d.parameters.length) = some n)
def LkV (y : MethodName) (cc : ByteArray) (maxL : Nat) (ret : Option FieldType) (n : Nat) : Prop := (Cond.instanceMethod y ∈ TB ∧ Cond.selects y.cls y y ∈ TB) ∧ Cond.initialized y.cls ∈ TB ∧ Cond.code y cc maxL ret ∈ TB ∧ (y.cls ≠ "java/lang/invoke/MethodHandle" ∧ y.cls ≠ "java/lang/invoke/VarHandle" ∧ (parseMethodDescriptor y.desc).map (fun d => d.parameters.length) = some n)
theorem TB_goodIn {w : Cond} (hw : w ∈ TB) : GoodIn TB (w :: TB) := fun x hx => by
  have h : x ∈ TB := by
    rcases List.mem_cons.mp hx with h | h
    · rw [h]; exact hw
    · exact h
  exact ⟨h, good_of_word (TB_good x h)⟩
theorem J.callSi (C : JC p s m args c cc nL own D cI A E) {y : MethodName} {cc' : ByteArray} {maxL n' fr lc idx : Nat} {ret : Option FieldType} {av rest : List Value} {r : Int32 × Sg} (hM : CTi l E D cI wf y cc' maxL ret fr lc av g r) (hlk : LkS y cc' maxL ret n') (h1 : Cond.methodLink own idx y ∈ TB) (hR : fr + 1 ≤ R.frames ∧ 8 + (maxL + 11) + lc ≤ R.locals) (hn : av.length = n') (hst : st = av.reverse ++ rest) (hc : (rest.map fun v => v.category).sum ≤ 8) (hdg : decode cc pc = .ok (.invokestatic idx, 3)) (k : J p l e R s m args below meth c D wf A nL Q r.2 (pc + 3) lo (.int r.1 :: rest)) : J p l e R s m args below meth c D wf A nL Q g pc lo st := by
  intro H locs ls hP hD hS hl
  obtain ⟨hx, hb, hml, hown, hts, hK, hA, hE, hEK⟩ := id C
  obtain ⟨k1, k2, k3, k4⟩ := hlk
  have hF := J.freeA C hD hS
  refine va_calli (va_runS (As := av) (rest := rest) (Ts := TB) ⟨hx, hb, hml, hown, hts⟩ (hM H.size) ⟨callB_of n' hts (TB_goodIn k3) rfl rfl rfl (hts _ k2) (hts _ h1) k4 hR, hts _ k1⟩ ⟨PreC.blind hEK av g H.size, fun U hU hW => ⟨rfl, J.pre C hP hD hS hU hW⟩⟩ rfl hn hl.1.1 hst (lv_room hc) hdg ⟨Nat.zero_le _, Nat.zero_le _⟩) hS (fun q _ h => hF q h) hF (fun r' u t H1 locs1 ht hvm hw hB hz hk hS1 => ?_)
  obtain ⟨hP1, hD1⟩ := hB
  subst hw
  rw [ht] at hP1
  exact k H1 locs1 ls hP1 (hD1.weaken (fun k q _ h => hF q.1 h)) hS1 hl
theorem J.callSv (C : JC p s m args c cc nL own D cI A E) {y : MethodName} {cc' : ByteArray} {maxL n' fr lc idx : Nat} {av rest : List Value} {r : Sg} (hM : CTv l E D cI wf y cc' maxL fr lc av g r) (hlk : LkS y cc' maxL none n') (h1 : Cond.methodLink own idx y ∈ TB) (hR : fr + 1 ≤ R.frames ∧ 8 + (maxL + 11) + lc ≤ R.locals) (hn : av.length = n') (hst : st = av.reverse ++ rest) (hc : (rest.map fun v => v.category).sum ≤ 8) (hdg : decode cc pc = .ok (.invokestatic idx, 3)) (k : J p l e R s m args below meth c D wf A nL Q r (pc + 3) lo rest) : J p l e R s m args below meth c D wf A nL Q g pc lo st := by
  intro H locs ls hP hD hS hl
  obtain ⟨hx, hb, hml, hown, hts, hK, hA, hE, hEK⟩ := id C
  obtain ⟨k1, k2, k3, k4⟩ := hlk
  have hF := J.freeA C hD hS
  refine va_callv (va_runS (As := av) (rest := rest) (Ts := TB) ⟨hx, hb, hml, hown, hts⟩ (hM H.size) ⟨callB_of n' hts (TB_goodIn k3) rfl rfl rfl (hts _ k2) (hts _ h1) k4 hR, hts _ k1⟩ ⟨PreC.blind hEK av g H.size, fun U hU hW => ⟨rfl, J.pre C hP hD hS hU hW⟩⟩ rfl hn hl.1.1 hst (lv_room hc) hdg ⟨Nat.zero_le _, Nat.zero_le _⟩) hS (fun q _ h => hF q h) hF (fun u t H1 locs1 ht hvm hw hB hz hk hS1 => ?_)
  obtain ⟨hP1, hD1⟩ := hB
  rw [ht] at hP1
  exact k H1 locs1 ls hP1 (hD1.weaken (fun k q _ h => hF q.1 h)) hS1 hl
/-- the object on which a method is called stands among the cells -/
def isObj (wf : Sg → va_W) (a : Nat) (Cn : String) : Prop := ∃ (j ci : Nat) (T : u_T) (N : Nat), CL[ci]? = some (Cn, T, N) ∧ ∀ g : Sg, ∃ fs : List Value, (wf g)[j]? = some (a, .inr (ci, fs))
theorem isObj.recv (C : JC p s m args c cc nL own D cI A E) {a : Nat} {Cn : String} (h : isObj wf a Cn) {H : Heap} (hP : va_P D CL (wf g) H) : ∃ cell : Cell, H[a]? = some cell ∧ cell.vm.isStatics = false ∧ s.vm.findClass Cn = some cell.cls := by
  obtain ⟨j, ci, T, N, hc, hj⟩ := h
  obtain ⟨fs, hf⟩ := hj g
  exact va_recv C.2.2.2.2.2.1 hP hc hf
theorem J.callVi (C : JC p s m args c cc nL own D cI A E) {y : MethodName} {cc' : ByteArray} {maxL n' fr lc idx a : Nat} {ret : Option FieldType} {av rest : List Value} {r : Int32 × Sg} (hM : CTi l E D cI wf y cc' maxL ret fr lc (.ref a :: av) g r) (hlk : LkV y cc' maxL ret n') (h1 : Cond.methodLink own idx y ∈ TB) (ho : isObj wf a y.cls) (hR : fr + 1 ≤ R.frames ∧ 8 + (maxL + 11) + lc ≤ R.locals) (hn : av.length = n') (hst : st = av.reverse ++ .ref a :: rest) (hc : (rest.map fun v => v.category).sum ≤ 8) (hdg : decode cc pc = .ok (.invokevirtual idx, 3)) (k : J p l e R s m args below meth c D wf A nL Q r.2 (pc + 3) lo (.int r.1 :: rest)) : J p l e R s m args below meth c D wf A nL Q g pc lo st := by
  intro H locs ls hP hD hS hl
  obtain ⟨hx, hb, hml, hown, hts, hK, hA, hE, hEK⟩ := id C
  obtain ⟨⟨k0, k1⟩, k2, k3, k4⟩ := hlk
  have hF := J.freeA C hD hS
  refine va_calli (va_runV (As := av) (rest := rest) (Ts := TB) (b := a) ⟨hx, hb, hml, hown, hts⟩ (hM H.size) ⟨callB_of n' hts (TB_goodIn k3) rfl rfl rfl (hts _ k2) (hts _ h1) k4 hR, hts _ k0, hts _ k1⟩ ⟨PreC.blind hEK (.ref a :: av) g H.size, isObj.recv C ho hP, fun U hU hW => ⟨rfl, J.pre C hP hD hS hU hW⟩⟩ rfl hn hl.1.1 hst (lv_room hc) hdg ⟨Nat.zero_le _, Nat.zero_le _⟩) hS (fun q _ h => hF q h) hF (fun r' u t H1 locs1 ht hvm hw hB hz hk hS1 => ?_)
  obtain ⟨hP1, hD1⟩ := hB
  subst hw
  rw [ht] at hP1
  exact k H1 locs1 ls hP1 (hD1.weaken (fun k q _ h => hF q.1 h)) hS1 hl
theorem J.callVv (C : JC p s m args c cc nL own D cI A E) {y : MethodName} {cc' : ByteArray} {maxL n' fr lc idx a : Nat} {av rest : List Value} {r : Sg} (hM : CTv l E D cI wf y cc' maxL fr lc (.ref a :: av) g r) (hlk : LkV y cc' maxL none n') (h1 : Cond.methodLink own idx y ∈ TB) (ho : isObj wf a y.cls) (hR : fr + 1 ≤ R.frames ∧ 8 + (maxL + 11) + lc ≤ R.locals) (hn : av.length = n') (hst : st = av.reverse ++ .ref a :: rest) (hc : (rest.map fun v => v.category).sum ≤ 8) (hdg : decode cc pc = .ok (.invokevirtual idx, 3)) (k : J p l e R s m args below meth c D wf A nL Q r (pc + 3) lo rest) : J p l e R s m args below meth c D wf A nL Q g pc lo st := by
  intro H locs ls hP hD hS hl
  obtain ⟨hx, hb, hml, hown, hts, hK, hA, hE, hEK⟩ := id C
  obtain ⟨⟨k0, k1⟩, k2, k3, k4⟩ := hlk
  have hF := J.freeA C hD hS
  refine va_callv (va_runV (As := av) (rest := rest) (Ts := TB) (b := a) ⟨hx, hb, hml, hown, hts⟩ (hM H.size) ⟨callB_of n' hts (TB_goodIn k3) rfl rfl rfl (hts _ k2) (hts _ h1) k4 hR, hts _ k0, hts _ k1⟩ ⟨PreC.blind hEK (.ref a :: av) g H.size, isObj.recv C ho hP, fun U hU hW => ⟨rfl, J.pre C hP hD hS hU hW⟩⟩ rfl hn hl.1.1 hst (lv_room hc) hdg ⟨Nat.zero_le _, Nat.zero_le _⟩) hS (fun q _ h => hF q h) hF (fun u t H1 locs1 ht hvm hw hB hz hk hS1 => ?_)
  obtain ⟨hP1, hD1⟩ := hB
  rw [ht] at hP1
  exact k H1 locs1 ls hP1 (hD1.weaken (fun k q _ h => hF q.1 h)) hS1 hl
theorem CTi.of {y : MethodName} {maxL fr lc : Nat} {rt : FieldType} {av : List Value} {r : Int32 × Sg} (hy : plainName y.cls = true) (hEK : EOK E) (hlen : (lg_sl av).length ≤ maxL) (hcat : ∀ q ∈ lv_args 0 av, q.2.category = 1)
    (body : ∀ (p : Program) (e : Env) (s : State) (m : MethodId) (args : Array Value) (below : List Frame) (meth : Method) (c : Code) (A : Nat → Prop) (Q : State → Prop), JC p s m args c cc maxL y.cls D cI A E → (∀ {pc : Nat} {lo : List (Nat × Value)} {v : Int32} {g' : Sg}, decode cc pc = .ok (.ireturn, 1) → some (v, g') = some r → narrow rt (.int v) = .int v → J p l e (RM fr lc) s m args below meth c D wf A maxL Q g' pc lo [.int v]) → J p l e (RM fr lc) s m args below meth c D wf A maxL Q g 0 (lv_args 0 av) []) : CTi l E D cI wf y cc maxL (some rt) fr lc av g r := by
  intro sz
  refine Met.ofW (cc := cc) (maxL := maxL) (ret := some rt) hy rfl ?_
  intro p e s m args below meth c s₁ B hml hv
  obtain ⟨rfl, hsz, hP, hK, hD0, hE⟩ := hv
  have hx := B.exec
  have hb := B.bytes
  have hr := B.returns
  have hts : ∀ w ∈ TB, w.before av.toArray s = true := fun w hw => atoms_spec (ws := .code y cc maxL (some rt) :: TB) B.pre w (List.mem_cons_of_mem _ hw)
  have hown : s.vm.findClass y.cls = some m.cls := findClass_of_methodNamed B.named
  have hlocks := B.notSynchronized
  subst hsz
  have hD := hD0.self (sz := s.heap.size)
  have hl := lv_entry av (n := maxL) hlen
  rw [lg_entry_eq]
  exact body p e s m av.toArray below meth c (va_A (wf g) s.heap.size) _ ⟨hx, hb, hml, hown, hts, hK, fun q h => Or.inr h, hE, hEK⟩ (fun hdg hv hn H locs ls hP hD hS hl => W.zret hx hb hr hn (fun t ht hW => ⟨⟨_, (), rfl, by cases hv; rfl, by cases hv; rw [ht]; exact hP, by cases hv; exact hD⟩, hS.F ht⟩) hS.2.2 hdg hlocks) s.heap [] _ hP hD va_S.rf ⟨hl, hcat⟩
theorem CTv.of {y : MethodName} {maxL fr lc : Nat} {av : List Value} {r : Sg} (hy : plainName y.cls = true) (hEK : EOK E) (hlen : (lg_sl av).length ≤ maxL) (hcat : ∀ q ∈ lv_args 0 av, q.2.category = 1)
    (body : ∀ (p : Program) (e : Env) (s : State) (m : MethodId) (args : Array Value) (below : List Frame) (meth : Method) (c : Code) (A : Nat → Prop) (Q : State → Prop), JC p s m args c cc maxL y.cls D cI A E → (∀ {pc : Nat} {lo : List (Nat × Value)} {g' : Sg}, decode cc pc = .ok (.return_, 1) → some g' = some r → J p l e (RM fr lc) s m args below meth c D wf A maxL Q g' pc lo []) → J p l e (RM fr lc) s m args below meth c D wf A maxL Q g 0 (lv_args 0 av) []) : CTv l E D cI wf y cc maxL fr lc av g r := by
  intro sz
  refine Met.ofW (cc := cc) (maxL := maxL) (ret := none) hy rfl ?_
  intro p e s m args below meth c s₁ B hml hv
  obtain ⟨rfl, hsz, hP, hK, hD0, hE⟩ := hv
  have hx := B.exec
  have hb := B.bytes
  have hr := B.returns
  have hts : ∀ w ∈ TB, w.before av.toArray s = true := fun w hw => atoms_spec (ws := .code y cc maxL none :: TB) B.pre w (List.mem_cons_of_mem _ hw)
  have hown : s.vm.findClass y.cls = some m.cls := findClass_of_methodNamed B.named
  have hlocks := B.notSynchronized
  subst hsz
  have hD := hD0.self (sz := s.heap.size)
  have hl := lv_entry av (n := maxL) hlen
  rw [lg_entry_eq]
  exact body p e s m av.toArray below meth c (va_A (wf g) s.heap.size) _ ⟨hx, hb, hml, hown, hts, hK, fun q h => Or.inr h, hE, hEK⟩ (fun hdg hv H locs ls hP hD hS hl => W.vret hx hb hr (fun t ht hW => ⟨⟨(), rfl, trivial, by cases hv; rw [ht]; exact hP, by cases hv; exact hD⟩, hS.F ht⟩) hS.2.2 hdg hlocks) s.heap [] _ hP hD va_S.rf ⟨hl, hcat⟩
end JAY
end
section
def cW (q : Nat → Nat) (cI : ClassId) (g : Sg) : va_W := [(q 0, .inr (5, [.ref (q 3), .ref (q 10), .ref (q 17), .ref (q 24), .ref (q 26), .ref (q 37), .ref (q 40), .ref (q 1), .int (g.1 0), .ref (q 2), .int (g.1 1)])), (q 1, .inl (cI, 12, .inl (g.2 1))), (q 2, .inl (cI, 7, .inl (g.2 2))), (q 3, .inr (0, [.ref (q 4), .ref (q 5), .ref (q 6), .ref (q 7), .ref (q 8), .ref (q 9), .int (g.1 3), .int (g.1 4)])), (q 4, .inl (cI, 3, .inl (g.2 4))), (q 5, .inl (cI, 7, .inl (g.2 5))), (q 6, .inl (cI, 7, .inl (g.2 6))), (q 7, .inl (cI, 7, .inl (g.2 7))), (q 8, .inl (cI, 7, .inl (g.2 8))), (q 9, .inl (cI, 7, .inl (g.2 9))), (q 10, .inr (0, [.ref (q 11), .ref (q 12), .ref (q 13), .ref (q 14), .ref (q 15), .ref (q 16), .int (g.1 10), .int (g.1 11)])), (q 11, .inl (cI, 3, .inl (g.2 11))), (q 12, .inl (cI, 7, .inl (g.2 12))), (q 13, .inl (cI, 7, .inl (g.2 13))), (q 14, .inl (cI, 7, .inl (g.2 14))), (q 15, .inl (cI, 7, .inl (g.2 15))), (q 16, .inl (cI, 7, .inl (g.2 16))), (q 17, .inr (0, [.ref (q 18), .ref (q 19), .ref (q 20), .ref (q 21), .ref (q 22), .ref (q 23), .int (g.1 17), .int (g.1 18)])), (q 18, .inl (cI, 3, .inl (g.2 18))), (q 19, .inl (cI, 7, .inl (g.2 19))), (q 20, .inl (cI, 7, .inl (g.2 20))), (q 21, .inl (cI, 7, .inl (g.2 21))), (q 22, .inl (cI, 7, .inl (g.2 22))), (q 23, .inl (cI, 7, .inl (g.2 23))), (q 24, .inr (2, [.ref (q 25), .int (g.1 24)])), (q 25, .inl (cI, 96, .inl (g.2 25))), (q 26, .inr (4, [.ref (q 27), .ref (q 28), .ref (q 29), .ref (q 30), .ref (q 31), .ref (q 32), .ref (q 33), .ref (q 34), .ref (q 35), .ref (q 36), .int (g.1 26), .int (g.1 27), .int (g.1 28), .int (g.1 29), .int (g.1 30), .int (g.1 31), .int (g.1 32)])), (q 27, .inl (cI, 7, .inl (g.2 27))), (q 28, .inl (cI, 7, .inl (g.2 28))), (q 29, .inl (cI, 7, .inl (g.2 29))), (q 30, .inl (cI, 7, .inl (g.2 30))), (q 31, .inl (cI, 7, .inl (g.2 31))), (q 32, .inl (cI, 7, .inl (g.2 32))), (q 33, .inl (cI, 7, .inl (g.2 33))), (q 34, .inl (cI, 12, .inl (g.2 34))), (q 35, .inl (cI, 2, .inl (g.2 35))), (q 36, .inl (cI, 2, .inl (g.2 36))), (q 37, .inr (3, [.ref (q 38), .int (g.1 37), .int (g.1 38), .ref (q 39)])), (q 38, .inl (cI, 7, .inl (g.2 38))), (q 39, .inl (cI, 7, .inl (g.2 39))), (q 40, .inr (1, [.ref (q 41), .ref (q 42), .ref (q 43)])), (q 41, .inl (cI, 7, .inl (g.2 41))), (q 42, .inl (cI, 128, .inl (g.2 42))), (q 43, .inl (cI, 128, .inl (g.2 43)))]
def mW (q : Nat → Nat) (cI : ClassId) (g : Sg) : va_W := [(q 0, .inr (6, [.int (g.1 0), .ref (q 1), .ref (q 2), .ref (q 3), .ref (q 4), .ref (q 5), .ref (q 6), .int (g.1 1), .ref (q 7), .int (g.1 2), .ref (q 8), .int (g.1 3), .ref (q 9), .ref (q 10), .int (g.1 4), .ref (q 11), .ref (q 12), .int (g.1 5), .ref (q 13), .int (g.1 6), .ref (q 14), .ref (q 15), .ref (q 16), .ref (q 17), .ref (q 18), .ref (q 19), .int (g.1 7), .ref (q 20), .ref (q 21), .ref (q 22), .ref (q 23)])), (q 1, .inl (cI, 7, .inl (g.2 1))), (q 2, .inl (cI, 7, .inl (g.2 2))), (q 3, .inl (cI, 7, .inl (g.2 3))), (q 4, .inl (cI, 7, .inl (g.2 4))), (q 5, .inl (cI, 7, .inl (g.2 5))), (q 6, .inl (cI, 3, .inl (g.2 6))), (q 7, .inl (cI, 96, .inl (g.2 7))), (q 8, .inl (cI, 8, .inl (g.2 8))), (q 9, .inl (cI, 12, .inl (g.2 9))), (q 10, .inl (cI, 7, .inl (g.2 10))), (q 11, .inl (cI, 39, .inl (g.2 11))), (q 12, .inl (cI, 39, .inl (g.2 12))), (q 13, .inl (cI, 7, .inl (g.2 13))), (q 14, .inl (cI, 2, .inl (g.2 14))), (q 15, .inl (cI, 2, .inl (g.2 15))), (q 16, .inl (cI, 7, .inl (g.2 16))), (q 17, .inl (cI, 7, .inl (g.2 17))), (q 18, .inl (cI, 7, .inl (g.2 18))), (q 19, .inl (cI, 7, .inl (g.2 19))), (q 20, .inl (cI, 12, .inl (g.2 20))), (q 21, .inl (cI, 7, .inl (g.2 21))), (q 22, .inl (cI, 7, .inl (g.2 22))), (q 23, .inl (cI, 128, .inl (g.2 23)))]
def isAl (a : Nat) : Prop := a = 3 ∨ a = 10 ∨ a = 17
theorem al_3 : isAl 3 := Or.inl rfl
theorem al_10 : isAl 10 := Or.inr (Or.inl rfl)
theorem al_17 : isAl 17 := Or.inr (Or.inr rfl)
theorem ia_1 (q : Nat → Nat) (cI : ClassId) : isArr (cW q cI) cI (q 1) 1 12 := ⟨Nat.le_of_ble_eq_true rfl, 1, fun g => ⟨rfl, fun f => rfl⟩⟩
theorem ia_2 (q : Nat → Nat) (cI : ClassId) : isArr (cW q cI) cI (q 2) 2 7 := ⟨Nat.le_of_ble_eq_true rfl, 2, fun g => ⟨rfl, fun f => rfl⟩⟩
theorem io_0 (q : Nat → Nat) (cI : ClassId) : isObj (cW q cI) (q 0) RX6 := ⟨0, 5, TX6, 11, rfl, fun g => ⟨_, rfl⟩⟩
theorem ia_4 (q : Nat → Nat) (cI : ClassId) : isArr (cW q cI) cI (q 4) 4 3 := ⟨Nat.le_of_ble_eq_true rfl, 4, fun g => ⟨rfl, fun f => rfl⟩⟩
theorem ia_5 (q : Nat → Nat) (cI : ClassId) : isArr (cW q cI) cI (q 5) 5 7 := ⟨Nat.le_of_ble_eq_true rfl, 5, fun g => ⟨rfl, fun f => rfl⟩⟩
theorem ia_6 (q : Nat → Nat) (cI : ClassId) : isArr (cW q cI) cI (q 6) 6 7 := ⟨Nat.le_of_ble_eq_true rfl, 6, fun g => ⟨rfl, fun f => rfl⟩⟩
theorem ia_7 (q : Nat → Nat) (cI : ClassId) : isArr (cW q cI) cI (q 7) 7 7 := ⟨Nat.le_of_ble_eq_true rfl, 7, fun g => ⟨rfl, fun f => rfl⟩⟩
theorem ia_8 (q : Nat → Nat) (cI : ClassId) : isArr (cW q cI) cI (q 8) 8 7 := ⟨Nat.le_of_ble_eq_true rfl, 8, fun g => ⟨rfl, fun f => rfl⟩⟩
theorem ia_9 (q : Nat → Nat) (cI : ClassId) : isArr (cW q cI) cI (q 9) 9 7 := ⟨Nat.le_of_ble_eq_true rfl, 9, fun g => ⟨rfl, fun f => rfl⟩⟩
theorem io_3 (q : Nat → Nat) (cI : ClassId) : isObj (cW q cI) (q 3) RX0 := ⟨3, 0, TX0, 8, rfl, fun g => ⟨_, rfl⟩⟩
theorem ia_11 (q : Nat → Nat) (cI : ClassId) : isArr (cW q cI) cI (q 11) 11 3 := ⟨Nat.le_of_ble_eq_true rfl, 11, fun g => ⟨rfl, fun f => rfl⟩⟩
theorem ia_12 (q : Nat → Nat) (cI : ClassId) : isArr (cW q cI) cI (q 12) 12 7 := ⟨Nat.le_of_ble_eq_true rfl, 12, fun g => ⟨rfl, fun f => rfl⟩⟩
theorem ia_13 (q : Nat → Nat) (cI : ClassId) : isArr (cW q cI) cI (q 13) 13 7 := ⟨Nat.le_of_ble_eq_true rfl, 13, fun g => ⟨rfl, fun f => rfl⟩⟩
theorem ia_14 (q : Nat → Nat) (cI : ClassId) : isArr (cW q cI) cI (q 14) 14 7 := ⟨Nat.le_of_ble_eq_true rfl, 14, fun g => ⟨rfl, fun f => rfl⟩⟩
theorem ia_15 (q : Nat → Nat) (cI : ClassId) : isArr (cW q cI) cI (q 15) 15 7 := ⟨Nat.le_of_ble_eq_true rfl, 15, fun g => ⟨rfl, fun f => rfl⟩⟩
theorem ia_16 (q : Nat → Nat) (cI : ClassId) : isArr (cW q cI) cI (q 16) 16 7 := ⟨Nat.le_of_ble_eq_true rfl, 16, fun g => ⟨rfl, fun f => rfl⟩⟩
theorem io_10 (q : Nat → Nat) (cI : ClassId) : isObj (cW q cI) (q 10) RX0 := ⟨10, 0, TX0, 8, rfl, fun g => ⟨_, rfl⟩⟩
theorem ia_18 (q : Nat → Nat) (cI : ClassId) : isArr (cW q cI) cI (q 18) 18 3 := ⟨Nat.le_of_ble_eq_true rfl, 18, fun g => ⟨rfl, fun f => rfl⟩⟩
theorem ia_19 (q : Nat → Nat) (cI : ClassId) : isArr (cW q cI) cI (q 19) 19 7 := ⟨Nat.le_of_ble_eq_true rfl, 19, fun g => ⟨rfl, fun f => rfl⟩⟩
theorem ia_20 (q : Nat → Nat) (cI : ClassId) : isArr (cW q cI) cI (q 20) 20 7 := ⟨Nat.le_of_ble_eq_true rfl, 20, fun g => ⟨rfl, fun f => rfl⟩⟩
theorem ia_21 (q : Nat → Nat) (cI : ClassId) : isArr (cW q cI) cI (q 21) 21 7 := ⟨Nat.le_of_ble_eq_true rfl, 21, fun g => ⟨rfl, fun f => rfl⟩⟩
theorem ia_22 (q : Nat → Nat) (cI : ClassId) : isArr (cW q cI) cI (q 22) 22 7 := ⟨Nat.le_of_ble_eq_true rfl, 22, fun g => ⟨rfl, fun f => rfl⟩⟩
theorem ia_23 (q : Nat → Nat) (cI : ClassId) : isArr (cW q cI) cI (q 23) 23 7 := ⟨Nat.le_of_ble_eq_true rfl, 23, fun g => ⟨rfl, fun f => rfl⟩⟩
theorem io_17 (q : Nat → Nat) (cI : ClassId) : isObj (cW q cI) (q 17) RX0 := ⟨17, 0, TX0, 8, rfl, fun g => ⟨_, rfl⟩⟩
theorem ia_25 (q : Nat → Nat) (cI : ClassId) : isArr (cW q cI) cI (q 25) 25 96 := ⟨Nat.le_of_ble_eq_true rfl, 25, fun g => ⟨rfl, fun f => rfl⟩⟩
theorem io_24 (q : Nat → Nat) (cI : ClassId) : isObj (cW q cI) (q 24) RX2 := ⟨24, 2, TX2, 2, rfl, fun g => ⟨_, rfl⟩⟩
theorem ia_27 (q : Nat → Nat) (cI : ClassId) : isArr (cW q cI) cI (q 27) 27 7 := ⟨Nat.le_of_ble_eq_true rfl, 27, fun g => ⟨rfl, fun f => rfl⟩⟩
theorem ia_28 (q : Nat → Nat) (cI : ClassId) : isArr (cW q cI) cI (q 28) 28 7 := ⟨Nat.le_of_ble_eq_true rfl, 28, fun g => ⟨rfl, fun f => rfl⟩⟩
theorem ia_29 (q : Nat → Nat) (cI : ClassId) : isArr (cW q cI) cI (q 29) 29 7 := ⟨Nat.le_of_ble_eq_true rfl, 29, fun g => ⟨rfl, fun f => rfl⟩⟩
theorem ia_30 (q : Nat → Nat) (cI : ClassId) : isArr (cW q cI) cI (q 30) 30 7 := ⟨Nat.le_of_ble_eq_true rfl, 30, fun g => ⟨rfl, fun f => rfl⟩⟩
theorem ia_31 (q : Nat → Nat) (cI : ClassId) : isArr (cW q cI) cI (q 31) 31 7 := ⟨Nat.le_of_ble_eq_true rfl, 31, fun g => ⟨rfl, fun f => rfl⟩⟩
theorem ia_32 (q : Nat → Nat) (cI : ClassId) : isArr (cW q cI) cI (q 32) 32 7 := ⟨Nat.le_of_ble_eq_true rfl, 32, fun g => ⟨rfl, fun f => rfl⟩⟩
theorem ia_33 (q : Nat → Nat) (cI : ClassId) : isArr (cW q cI) cI (q 33) 33 7 := ⟨Nat.le_of_ble_eq_true rfl, 33, fun g => ⟨rfl, fun f => rfl⟩⟩
theorem ia_34 (q : Nat → Nat) (cI : ClassId) : isArr (cW q cI) cI (q 34) 34 12 := ⟨Nat.le_of_ble_eq_true rfl, 34, fun g => ⟨rfl, fun f => rfl⟩⟩
theorem ia_35 (q : Nat → Nat) (cI : ClassId) : isArr (cW q cI) cI (q 35) 35 2 := ⟨Nat.le_of_ble_eq_true rfl, 35, fun g => ⟨rfl, fun f => rfl⟩⟩
theorem ia_36 (q : Nat → Nat) (cI : ClassId) : isArr (cW q cI) cI (q 36) 36 2 := ⟨Nat.le_of_ble_eq_true rfl, 36, fun g => ⟨rfl, fun f => rfl⟩⟩
theorem io_26 (q : Nat → Nat) (cI : ClassId) : isObj (cW q cI) (q 26) RX5 := ⟨26, 4, TX5, 17, rfl, fun g => ⟨_, rfl⟩⟩
theorem ia_38 (q : Nat → Nat) (cI : ClassId) : isArr (cW q cI) cI (q 38) 38 7 := ⟨Nat.le_of_ble_eq_true rfl, 38, fun g => ⟨rfl, fun f => rfl⟩⟩
theorem ia_39 (q : Nat → Nat) (cI : ClassId) : isArr (cW q cI) cI (q 39) 39 7 := ⟨Nat.le_of_ble_eq_true rfl, 39, fun g => ⟨rfl, fun f => rfl⟩⟩
theorem io_37 (q : Nat → Nat) (cI : ClassId) : isObj (cW q cI) (q 37) RX3 := ⟨37, 3, TX3, 4, rfl, fun g => ⟨_, rfl⟩⟩
theorem ia_41 (q : Nat → Nat) (cI : ClassId) : isArr (cW q cI) cI (q 41) 41 7 := ⟨Nat.le_of_ble_eq_true rfl, 41, fun g => ⟨rfl, fun f => rfl⟩⟩
theorem ia_42 (q : Nat → Nat) (cI : ClassId) : isArr (cW q cI) cI (q 42) 42 128 := ⟨Nat.le_of_ble_eq_true rfl, 42, fun g => ⟨rfl, fun f => rfl⟩⟩
theorem ia_43 (q : Nat → Nat) (cI : ClassId) : isArr (cW q cI) cI (q 43) 43 128 := ⟨Nat.le_of_ble_eq_true rfl, 43, fun g => ⟨rfl, fun f => rfl⟩⟩
theorem io_40 (q : Nat → Nat) (cI : ClassId) : isObj (cW q cI) (q 40) RX1 := ⟨40, 1, TX1, 3, rfl, fun g => ⟨_, rfl⟩⟩
theorem ia_al1 (q : Nat → Nat) (cI : ClassId) {a : Nat} (ha : isAl a) : isArr (cW q cI) cI (q (a + 1)) (a + 1) 3 := by
  rcases ha with rfl | rfl | rfl
  · exact ia_4 q cI
  · exact ia_11 q cI
  · exact ia_18 q cI
theorem ia_al2 (q : Nat → Nat) (cI : ClassId) {a : Nat} (ha : isAl a) : isArr (cW q cI) cI (q (a + 2)) (a + 2) 7 := by
  rcases ha with rfl | rfl | rfl
  · exact ia_5 q cI
  · exact ia_12 q cI
  · exact ia_19 q cI
theorem ia_al3 (q : Nat → Nat) (cI : ClassId) {a : Nat} (ha : isAl a) : isArr (cW q cI) cI (q (a + 3)) (a + 3) 7 := by
  rcases ha with rfl | rfl | rfl
  · exact ia_6 q cI
  · exact ia_13 q cI
  · exact ia_20 q cI
theorem ia_al4 (q : Nat → Nat) (cI : ClassId) {a : Nat} (ha : isAl a) : isArr (cW q cI) cI (q (a + 4)) (a + 4) 7 := by
  rcases ha with rfl | rfl | rfl
  · exact ia_7 q cI
  · exact ia_14 q cI
  · exact ia_21 q cI
theorem ia_al5 (q : Nat → Nat) (cI : ClassId) {a : Nat} (ha : isAl a) : isArr (cW q cI) cI (q (a + 5)) (a + 5) 7 := by
  rcases ha with rfl | rfl | rfl
  · exact ia_8 q cI
  · exact ia_15 q cI
  · exact ia_22 q cI
theorem ia_al6 (q : Nat → Nat) (cI : ClassId) {a : Nat} (ha : isAl a) : isArr (cW q cI) cI (q (a + 6)) (a + 6) 7 := by
  rcases ha with rfl | rfl | rfl
  · exact ia_9 q cI
  · exact ia_16 q cI
  · exact ia_23 q cI
theorem io_al (q : Nat → Nat) (cI : ClassId) {a : Nat} (ha : isAl a) : isObj (cW q cI) (q a) RX0 := by
  rcases ha with rfl | rfl | rfl
  · exact io_3 q cI
  · exact io_10 q cI
  · exact io_17 q cI
theorem im_1 (q : Nat → Nat) (cI : ClassId) : isArr (mW q cI) cI (q 1) 1 7 := ⟨Nat.le_of_ble_eq_true rfl, 1, fun g => ⟨rfl, fun f => rfl⟩⟩
theorem im_2 (q : Nat → Nat) (cI : ClassId) : isArr (mW q cI) cI (q 2) 2 7 := ⟨Nat.le_of_ble_eq_true rfl, 2, fun g => ⟨rfl, fun f => rfl⟩⟩
theorem im_3 (q : Nat → Nat) (cI : ClassId) : isArr (mW q cI) cI (q 3) 3 7 := ⟨Nat.le_of_ble_eq_true rfl, 3, fun g => ⟨rfl, fun f => rfl⟩⟩
theorem im_4 (q : Nat → Nat) (cI : ClassId) : isArr (mW q cI) cI (q 4) 4 7 := ⟨Nat.le_of_ble_eq_true rfl, 4, fun g => ⟨rfl, fun f => rfl⟩⟩
theorem im_5 (q : Nat → Nat) (cI : ClassId) : isArr (mW q cI) cI (q 5) 5 7 := ⟨Nat.le_of_ble_eq_true rfl, 5, fun g => ⟨rfl, fun f => rfl⟩⟩
theorem im_6 (q : Nat → Nat) (cI : ClassId) : isArr (mW q cI) cI (q 6) 6 3 := ⟨Nat.le_of_ble_eq_true rfl, 6, fun g => ⟨rfl, fun f => rfl⟩⟩
theorem im_7 (q : Nat → Nat) (cI : ClassId) : isArr (mW q cI) cI (q 7) 7 96 := ⟨Nat.le_of_ble_eq_true rfl, 7, fun g => ⟨rfl, fun f => rfl⟩⟩
theorem im_8 (q : Nat → Nat) (cI : ClassId) : isArr (mW q cI) cI (q 8) 8 8 := ⟨Nat.le_of_ble_eq_true rfl, 8, fun g => ⟨rfl, fun f => rfl⟩⟩
theorem im_9 (q : Nat → Nat) (cI : ClassId) : isArr (mW q cI) cI (q 9) 9 12 := ⟨Nat.le_of_ble_eq_true rfl, 9, fun g => ⟨rfl, fun f => rfl⟩⟩
theorem im_10 (q : Nat → Nat) (cI : ClassId) : isArr (mW q cI) cI (q 10) 10 7 := ⟨Nat.le_of_ble_eq_true rfl, 10, fun g => ⟨rfl, fun f => rfl⟩⟩
theorem im_11 (q : Nat → Nat) (cI : ClassId) : isArr (mW q cI) cI (q 11) 11 39 := ⟨Nat.le_of_ble_eq_true rfl, 11, fun g => ⟨rfl, fun f => rfl⟩⟩
theorem im_12 (q : Nat → Nat) (cI : ClassId) : isArr (mW q cI) cI (q 12) 12 39 := ⟨Nat.le_of_ble_eq_true rfl, 12, fun g => ⟨rfl, fun f => rfl⟩⟩
theorem im_13 (q : Nat → Nat) (cI : ClassId) : isArr (mW q cI) cI (q 13) 13 7 := ⟨Nat.le_of_ble_eq_true rfl, 13, fun g => ⟨rfl, fun f => rfl⟩⟩
theorem im_14 (q : Nat → Nat) (cI : ClassId) : isArr (mW q cI) cI (q 14) 14 2 := ⟨Nat.le_of_ble_eq_true rfl, 14, fun g => ⟨rfl, fun f => rfl⟩⟩
theorem im_15 (q : Nat → Nat) (cI : ClassId) : isArr (mW q cI) cI (q 15) 15 2 := ⟨Nat.le_of_ble_eq_true rfl, 15, fun g => ⟨rfl, fun f => rfl⟩⟩
theorem im_16 (q : Nat → Nat) (cI : ClassId) : isArr (mW q cI) cI (q 16) 16 7 := ⟨Nat.le_of_ble_eq_true rfl, 16, fun g => ⟨rfl, fun f => rfl⟩⟩
theorem im_17 (q : Nat → Nat) (cI : ClassId) : isArr (mW q cI) cI (q 17) 17 7 := ⟨Nat.le_of_ble_eq_true rfl, 17, fun g => ⟨rfl, fun f => rfl⟩⟩
theorem im_18 (q : Nat → Nat) (cI : ClassId) : isArr (mW q cI) cI (q 18) 18 7 := ⟨Nat.le_of_ble_eq_true rfl, 18, fun g => ⟨rfl, fun f => rfl⟩⟩
theorem im_19 (q : Nat → Nat) (cI : ClassId) : isArr (mW q cI) cI (q 19) 19 7 := ⟨Nat.le_of_ble_eq_true rfl, 19, fun g => ⟨rfl, fun f => rfl⟩⟩
theorem im_20 (q : Nat → Nat) (cI : ClassId) : isArr (mW q cI) cI (q 20) 20 12 := ⟨Nat.le_of_ble_eq_true rfl, 20, fun g => ⟨rfl, fun f => rfl⟩⟩
theorem im_21 (q : Nat → Nat) (cI : ClassId) : isArr (mW q cI) cI (q 21) 21 7 := ⟨Nat.le_of_ble_eq_true rfl, 21, fun g => ⟨rfl, fun f => rfl⟩⟩
theorem im_22 (q : Nat → Nat) (cI : ClassId) : isArr (mW q cI) cI (q 22) 22 7 := ⟨Nat.le_of_ble_eq_true rfl, 22, fun g => ⟨rfl, fun f => rfl⟩⟩
theorem im_23 (q : Nat → Nat) (cI : ClassId) : isArr (mW q cI) cI (q 23) 23 128 := ⟨Nat.le_of_ble_eq_true rfl, 23, fun g => ⟨rfl, fun f => rfl⟩⟩
theorem io_m (q : Nat → Nat) (cI : ClassId) : isObj (mW q cI) (q 0) RX7 := ⟨0, 6, TX7, 31, rfl, fun g => ⟨_, rfl⟩⟩
set_option maxRecDepth 100000 in
theorem inl_X0 : ∀ w ∈ u_ws RX0 TX0 8, w ∈ lw_tbl := by decide +kernel
theorem ing_X0 : ∀ w ∈ u_ws RX0 TX0 8, goodWord w = true := by decide +kernel
theorem in_X0 : ∀ w ∈ u_ws RX0 TX0 8, w ∈ TB := fun w h => List.mem_filter.mpr ⟨inl_X0 w h, ing_X0 w h⟩
set_option maxRecDepth 100000 in
theorem inl_X1 : ∀ w ∈ u_ws RX1 TX1 3, w ∈ lw_tbl := by decide +kernel
theorem ing_X1 : ∀ w ∈ u_ws RX1 TX1 3, goodWord w = true := by decide +kernel
theorem in_X1 : ∀ w ∈ u_ws RX1 TX1 3, w ∈ TB := fun w h => List.mem_filter.mpr ⟨inl_X1 w h, ing_X1 w h⟩
set_option maxRecDepth 100000 in
theorem inl_X2 : ∀ w ∈ u_ws RX2 TX2 2, w ∈ lw_tbl := by decide +kernel
theorem ing_X2 : ∀ w ∈ u_ws RX2 TX2 2, goodWord w = true := by decide +kernel
theorem in_X2 : ∀ w ∈ u_ws RX2 TX2 2, w ∈ TB := fun w h => List.mem_filter.mpr ⟨inl_X2 w h, ing_X2 w h⟩
set_option maxRecDepth 100000 in
theorem inl_X3 : ∀ w ∈ u_ws RX3 TX3 4, w ∈ lw_tbl := by decide +kernel
theorem ing_X3 : ∀ w ∈ u_ws RX3 TX3 4, goodWord w = true := by decide +kernel
theorem in_X3 : ∀ w ∈ u_ws RX3 TX3 4, w ∈ TB := fun w h => List.mem_filter.mpr ⟨inl_X3 w h, ing_X3 w h⟩
set_option maxRecDepth 100000 in
theorem inl_X5 : ∀ w ∈ u_ws RX5 TX5 17, w ∈ lw_tbl := by decide +kernel
theorem ing_X5 : ∀ w ∈ u_ws RX5 TX5 17, goodWord w = true := by decide +kernel
theorem in_X5 : ∀ w ∈ u_ws RX5 TX5 17, w ∈ TB := fun w h => List.mem_filter.mpr ⟨inl_X5 w h, ing_X5 w h⟩
set_option maxRecDepth 100000 in
theorem inl_X6 : ∀ w ∈ u_ws RX6 TX6 11, w ∈ lw_tbl := by decide +kernel
theorem ing_X6 : ∀ w ∈ u_ws RX6 TX6 11, goodWord w = true := by decide +kernel
theorem in_X6 : ∀ w ∈ u_ws RX6 TX6 11, w ∈ TB := fun w h => List.mem_filter.mpr ⟨inl_X6 w h, ing_X6 w h⟩
set_option maxRecDepth 100000 in
theorem inl_X7 : ∀ w ∈ u_ws RX7 TX7 31, w ∈ lw_tbl := by decide +kernel
theorem ing_X7 : ∀ w ∈ u_ws RX7 TX7 31, goodWord w = true := by decide +kernel
theorem in_X7 : ∀ w ∈ u_ws RX7 TX7 31, w ∈ TB := fun w h => List.mem_filter.mpr ⟨inl_X7 w h, ing_X7 w h⟩
theorem tf_X6_10 : Cond.fieldLink RX6 10 "LightAsFarAsThePump" "alley" "LLightAsFarAsThePump$Alley;" ∈ TB := tbm 240 (by decide +kernel) (by decide +kernel)
theorem tf_X6_16 : Cond.fieldLink RX6 16 "LightAsFarAsThePump" "image" "LLightAsFarAsThePump$Alley;" ∈ TB := tbm 241 (by decide +kernel) (by decide +kernel)
theorem tf_X6_19 : Cond.fieldLink RX6 19 "LightAsFarAsThePump" "trial" "LLightAsFarAsThePump$Alley;" ∈ TB := tbm 242 (by decide +kernel) (by decide +kernel)
theorem tf_X6_25 : Cond.fieldLink RX6 25 "LightAsFarAsThePump" "letters" "LLightAsFarAsThePump$Letters;" ∈ TB := tbm 243 (by decide +kernel) (by decide +kernel)
theorem tf_X6_32 : Cond.fieldLink RX6 32 "LightAsFarAsThePump" "walk" "LLightAsFarAsThePump$Walk;" ∈ TB := tbm 244 (by decide +kernel) (by decide +kernel)
theorem tf_X6_39 : Cond.fieldLink RX6 39 "LightAsFarAsThePump" "orders" "LLightAsFarAsThePump$Orders;" ∈ TB := tbm 245 (by decide +kernel) (by decide +kernel)
theorem tf_X6_46 : Cond.fieldLink RX6 46 "LightAsFarAsThePump" "debts" "LLightAsFarAsThePump$Debts;" ∈ TB := tbm 246 (by decide +kernel) (by decide +kernel)
theorem tf_X6_50 : Cond.fieldLink RX6 50 "LightAsFarAsThePump" "row" "[I" ∈ TB := tbm 247 (by decide +kernel) (by decide +kernel)
theorem tf_X6_54 : Cond.fieldLink RX6 54 "LightAsFarAsThePump" "refusals" "[I" ∈ TB := tbm 249 (by decide +kernel) (by decide +kernel)
theorem tf_X6_57 : Cond.fieldLink RX6 57 "LightAsFarAsThePump" "inRow" "I" ∈ TB := tbm 248 (by decide +kernel) (by decide +kernel)
theorem tf_X6_61 : Cond.fieldLink RX6 61 "LightAsFarAsThePump" "imageTaken" "Z" ∈ TB := tbm 250 (by decide +kernel) (by decide +kernel)
theorem tf_X6_69 : Cond.fieldLink RX6 69 "LightAsFarAsThePump$Letters" "size" "I" ∈ TB := tbm 122 (by decide +kernel) (by decide +kernel)
theorem tf_X6_88 : Cond.fieldLink RX6 88 "LightAsFarAsThePump$Alley" "kind" "[I" ∈ TB := tbm 76 (by decide +kernel) (by decide +kernel)
theorem tf_X6_97 : Cond.fieldLink RX6 97 "LightAsFarAsThePump$Alley" "figure" "[I" ∈ TB := tbm 78 (by decide +kernel) (by decide +kernel)
theorem tf_X6_100 : Cond.fieldLink RX6 100 "LightAsFarAsThePump$Alley" "from" "[I" ∈ TB := tbm 81 (by decide +kernel) (by decide +kernel)
theorem tf_X6_103 : Cond.fieldLink RX6 103 "LightAsFarAsThePump$Alley" "to" "[I" ∈ TB := tbm 84 (by decide +kernel) (by decide +kernel)
theorem tf_X6_106 : Cond.fieldLink RX6 106 "LightAsFarAsThePump$Alley" "hour" "[I" ∈ TB := tbm 88 (by decide +kernel) (by decide +kernel)
theorem tf_X6_119 : Cond.fieldLink RX6 119 "LightAsFarAsThePump$Alley" "setting" "[I" ∈ TB := tbm 74 (by decide +kernel) (by decide +kernel)
theorem tf_X6_129 : Cond.fieldLink RX6 129 "LightAsFarAsThePump$Walk" "allCost" "I" ∈ TB := tbm 157 (by decide +kernel) (by decide +kernel)
theorem tf_X6_132 : Cond.fieldLink RX6 132 "LightAsFarAsThePump$Walk" "allDark" "I" ∈ TB := tbm 159 (by decide +kernel) (by decide +kernel)
theorem tf_X6_135 : Cond.fieldLink RX6 135 "LightAsFarAsThePump$Walk" "allLight" "I" ∈ TB := tbm 161 (by decide +kernel) (by decide +kernel)
theorem tf_X6_145 : Cond.fieldLink RX6 145 "LightAsFarAsThePump$Walk" "takers" "I" ∈ TB := tbm 163 (by decide +kernel) (by decide +kernel)
theorem tf_X6_148 : Cond.fieldLink RX6 148 "LightAsFarAsThePump$Walk" "lastTaker" "I" ∈ TB := tbm 165 (by decide +kernel) (by decide +kernel)
theorem tf_X6_151 : Cond.fieldLink RX6 151 "LightAsFarAsThePump$Walk" "dark" "[I" ∈ TB := tbm 135 (by decide +kernel) (by decide +kernel)
theorem tf_X6_154 : Cond.fieldLink RX6 154 "LightAsFarAsThePump$Walk" "light" "[I" ∈ TB := tbm 137 (by decide +kernel) (by decide +kernel)
theorem tf_X6_157 : Cond.fieldLink RX6 157 "LightAsFarAsThePump$Walk" "cost" "[I" ∈ TB := tbm 139 (by decide +kernel) (by decide +kernel)
theorem tf_X6_160 : Cond.fieldLink RX6 160 "LightAsFarAsThePump$Walk" "stood" "[I" ∈ TB := tbm 141 (by decide +kernel) (by decide +kernel)
theorem tf_X6_163 : Cond.fieldLink RX6 163 "LightAsFarAsThePump$Walk" "had" "[I" ∈ TB := tbm 144 (by decide +kernel) (by decide +kernel)
theorem tf_X6_169 : Cond.fieldLink RX6 169 "LightAsFarAsThePump$Walk" "atEnd" "[I" ∈ TB := tbm 150 (by decide +kernel) (by decide +kernel)
theorem tf_X6_172 : Cond.fieldLink RX6 172 "LightAsFarAsThePump$Alley" "size" "I" ∈ TB := tbm 92 (by decide +kernel) (by decide +kernel)
theorem tf_X6_177 : Cond.fieldLink RX6 177 "LightAsFarAsThePump$Orders" "found" "Z" ∈ TB := tbm 212 (by decide +kernel) (by decide +kernel)
theorem tf_X6_180 : Cond.fieldLink RX6 180 "LightAsFarAsThePump$Orders" "leastCost" "I" ∈ TB := tbm 210 (by decide +kernel) (by decide +kernel)
theorem tf_X6_183 : Cond.fieldLink RX6 183 "LightAsFarAsThePump$Orders" "best" "[I" ∈ TB := tbm 208 (by decide +kernel) (by decide +kernel)
theorem tf_X6_198 : Cond.fieldLink RX6 198 "LightAsFarAsThePump$Alley" "secondLamp" "I" ∈ TB := tbm 95 (by decide +kernel) (by decide +kernel)
theorem tf_X6_205 : Cond.fieldLink RX6 205 "LightAsFarAsThePump$Debts" "net" "[I" ∈ TB := tbm 230 (by decide +kernel) (by decide +kernel)
theorem tf_X0_11 : Cond.fieldLink RX0 11 "LightAsFarAsThePump$Alley" "setting" "[I" ∈ TB := tbm 73 (by decide +kernel) (by decide +kernel)
theorem tf_X0_15 : Cond.fieldLink RX0 15 "LightAsFarAsThePump$Alley" "kind" "[I" ∈ TB := tbm 75 (by decide +kernel) (by decide +kernel)
theorem tf_X0_18 : Cond.fieldLink RX0 18 "LightAsFarAsThePump$Alley" "figure" "[I" ∈ TB := tbm 77 (by decide +kernel) (by decide +kernel)
theorem tf_X0_21 : Cond.fieldLink RX0 21 "LightAsFarAsThePump$Alley" "from" "[I" ∈ TB := tbm 79 (by decide +kernel) (by decide +kernel)
theorem tf_X0_24 : Cond.fieldLink RX0 24 "LightAsFarAsThePump$Alley" "to" "[I" ∈ TB := tbm 83 (by decide +kernel) (by decide +kernel)
theorem tf_X0_27 : Cond.fieldLink RX0 27 "LightAsFarAsThePump$Alley" "hour" "[I" ∈ TB := tbm 86 (by decide +kernel) (by decide +kernel)
theorem tf_X0_36 : Cond.fieldLink RX0 36 "LightAsFarAsThePump$Alley" "size" "I" ∈ TB := tbm 89 (by decide +kernel) (by decide +kernel)
theorem tf_X0_40 : Cond.fieldLink RX0 40 "LightAsFarAsThePump$Alley" "secondLamp" "I" ∈ TB := tbm 93 (by decide +kernel) (by decide +kernel)
theorem tf_X0_51 : Cond.fieldLink RX0 51 "LightAsFarAsThePump$Alley" "GREATEST_SETTING" "[I" ∈ TB := tbm 336 (by decide +kernel) (by decide +kernel)
theorem tf_X1_9 : Cond.fieldLink RX1 9 "LightAsFarAsThePump$Debts" "net" "[I" ∈ TB := tbm 229 (by decide +kernel) (by decide +kernel)
theorem tf_X1_15 : Cond.fieldLink RX1 15 "LightAsFarAsThePump$Debts" "sum" "[I" ∈ TB := tbm 231 (by decide +kernel) (by decide +kernel)
theorem tf_X1_18 : Cond.fieldLink RX1 18 "LightAsFarAsThePump$Debts" "groups" "[I" ∈ TB := tbm 232 (by decide +kernel) (by decide +kernel)
theorem tf_X1_27 : Cond.fieldLink RX1 27 "LightAsFarAsThePump$Walk" "went" "I" ∈ TB := tbm 154 (by decide +kernel) (by decide +kernel)
theorem tf_X1_33 : Cond.fieldLink RX1 33 "LightAsFarAsThePump$Walk" "whoWent" "[I" ∈ TB := tbm 146 (by decide +kernel) (by decide +kernel)
theorem tf_X1_40 : Cond.fieldLink RX1 40 "LightAsFarAsThePump$Walk" "had" "[I" ∈ TB := tbm 143 (by decide +kernel) (by decide +kernel)
theorem tf_X1_43 : Cond.fieldLink RX1 43 "LightAsFarAsThePump$Walk" "after" "[I" ∈ TB := tbm 148 (by decide +kernel) (by decide +kernel)
theorem tf_X1_50 : Cond.fieldLink RX1 50 "LightAsFarAsThePump$Alley" "from" "[I" ∈ TB := tbm 80 (by decide +kernel) (by decide +kernel)
theorem tf_X2_9 : Cond.fieldLink RX2 9 "LightAsFarAsThePump$Letters" "letter" "[I" ∈ TB := tbm 120 (by decide +kernel) (by decide +kernel)
theorem tf_X2_15 : Cond.fieldLink RX2 15 "LightAsFarAsThePump$Letters" "size" "I" ∈ TB := tbm 121 (by decide +kernel) (by decide +kernel)
theorem tf_X3_9 : Cond.fieldLink RX3 9 "LightAsFarAsThePump$Orders" "best" "[I" ∈ TB := tbm 207 (by decide +kernel) (by decide +kernel)
theorem tf_X3_15 : Cond.fieldLink RX3 15 "LightAsFarAsThePump$Orders" "order" "[I" ∈ TB := tbm 213 (by decide +kernel) (by decide +kernel)
theorem tf_X3_18 : Cond.fieldLink RX3 18 "LightAsFarAsThePump$Orders" "found" "Z" ∈ TB := tbm 211 (by decide +kernel) (by decide +kernel)
theorem tf_X3_22 : Cond.fieldLink RX3 22 "LightAsFarAsThePump$Orders" "leastCost" "I" ∈ TB := tbm 209 (by decide +kernel) (by decide +kernel)
theorem tf_X3_26 : Cond.fieldLink RX3 26 "LightAsFarAsThePump$Alley" "size" "I" ∈ TB := tbm 90 (by decide +kernel) (by decide +kernel)
theorem tf_X5_9 : Cond.fieldLink RX5 9 "LightAsFarAsThePump$Walk" "dark" "[I" ∈ TB := tbm 134 (by decide +kernel) (by decide +kernel)
theorem tf_X5_15 : Cond.fieldLink RX5 15 "LightAsFarAsThePump$Walk" "light" "[I" ∈ TB := tbm 136 (by decide +kernel) (by decide +kernel)
theorem tf_X5_18 : Cond.fieldLink RX5 18 "LightAsFarAsThePump$Walk" "cost" "[I" ∈ TB := tbm 138 (by decide +kernel) (by decide +kernel)
theorem tf_X5_21 : Cond.fieldLink RX5 21 "LightAsFarAsThePump$Walk" "stood" "[I" ∈ TB := tbm 140 (by decide +kernel) (by decide +kernel)
theorem tf_X5_24 : Cond.fieldLink RX5 24 "LightAsFarAsThePump$Walk" "had" "[I" ∈ TB := tbm 142 (by decide +kernel) (by decide +kernel)
theorem tf_X5_27 : Cond.fieldLink RX5 27 "LightAsFarAsThePump$Walk" "whoWent" "[I" ∈ TB := tbm 145 (by decide +kernel) (by decide +kernel)
theorem tf_X5_30 : Cond.fieldLink RX5 30 "LightAsFarAsThePump$Walk" "after" "[I" ∈ TB := tbm 147 (by decide +kernel) (by decide +kernel)
theorem tf_X5_33 : Cond.fieldLink RX5 33 "LightAsFarAsThePump$Walk" "atEnd" "[I" ∈ TB := tbm 149 (by decide +kernel) (by decide +kernel)
theorem tf_X5_36 : Cond.fieldLink RX5 36 "LightAsFarAsThePump$Walk" "lampCell" "[I" ∈ TB := tbm 151 (by decide +kernel) (by decide +kernel)
theorem tf_X5_39 : Cond.fieldLink RX5 39 "LightAsFarAsThePump$Walk" "lampOil" "[I" ∈ TB := tbm 152 (by decide +kernel) (by decide +kernel)
theorem tf_X5_52 : Cond.fieldLink RX5 52 "LightAsFarAsThePump$Alley" "size" "I" ∈ TB := tbm 91 (by decide +kernel) (by decide +kernel)
theorem tf_X5_58 : Cond.fieldLink RX5 58 "LightAsFarAsThePump$Alley" "hour" "[I" ∈ TB := tbm 87 (by decide +kernel) (by decide +kernel)
theorem tf_X5_73 : Cond.fieldLink RX5 73 "LightAsFarAsThePump$Walk" "allCost" "I" ∈ TB := tbm 156 (by decide +kernel) (by decide +kernel)
theorem tf_X5_76 : Cond.fieldLink RX5 76 "LightAsFarAsThePump$Walk" "lamps" "I" ∈ TB := tbm 153 (by decide +kernel) (by decide +kernel)
theorem tf_X5_89 : Cond.fieldLink RX5 89 "LightAsFarAsThePump$Alley" "secondLamp" "I" ∈ TB := tbm 94 (by decide +kernel) (by decide +kernel)
theorem tf_X5_92 : Cond.fieldLink RX5 92 "LightAsFarAsThePump$Walk" "went" "I" ∈ TB := tbm 155 (by decide +kernel) (by decide +kernel)
theorem tf_X5_95 : Cond.fieldLink RX5 95 "LightAsFarAsThePump$Walk" "allDark" "I" ∈ TB := tbm 158 (by decide +kernel) (by decide +kernel)
theorem tf_X5_98 : Cond.fieldLink RX5 98 "LightAsFarAsThePump$Walk" "allLight" "I" ∈ TB := tbm 160 (by decide +kernel) (by decide +kernel)
theorem tf_X5_101 : Cond.fieldLink RX5 101 "LightAsFarAsThePump$Walk" "takers" "I" ∈ TB := tbm 162 (by decide +kernel) (by decide +kernel)
theorem tf_X5_104 : Cond.fieldLink RX5 104 "LightAsFarAsThePump$Walk" "lastTaker" "I" ∈ TB := tbm 164 (by decide +kernel) (by decide +kernel)
theorem tf_X5_122 : Cond.fieldLink RX5 122 "LightAsFarAsThePump$Alley" "from" "[I" ∈ TB := tbm 82 (by decide +kernel) (by decide +kernel)
theorem tf_X5_143 : Cond.fieldLink RX5 143 "LightAsFarAsThePump$Alley" "to" "[I" ∈ TB := tbm 85 (by decide +kernel) (by decide +kernel)
theorem tf_X7_7 : Cond.fieldLink RX7 7 "LightAsFarAsThePumpModel" "kind" "[I" ∈ TB := tbm 639 (by decide +kernel) (by decide +kernel)
theorem tf_X7_13 : Cond.fieldLink RX7 13 "LightAsFarAsThePumpModel" "figure" "[I" ∈ TB := tbm 640 (by decide +kernel) (by decide +kernel)
theorem tf_X7_16 : Cond.fieldLink RX7 16 "LightAsFarAsThePumpModel" "from" "[I" ∈ TB := tbm 641 (by decide +kernel) (by decide +kernel)
theorem tf_X7_19 : Cond.fieldLink RX7 19 "LightAsFarAsThePumpModel" "to" "[I" ∈ TB := tbm 642 (by decide +kernel) (by decide +kernel)
theorem tf_X7_22 : Cond.fieldLink RX7 22 "LightAsFarAsThePumpModel" "hour" "[I" ∈ TB := tbm 643 (by decide +kernel) (by decide +kernel)
theorem tf_X7_25 : Cond.fieldLink RX7 25 "LightAsFarAsThePumpModel" "set" "[I" ∈ TB := tbm 644 (by decide +kernel) (by decide +kernel)
theorem tf_X7_28 : Cond.fieldLink RX7 28 "LightAsFarAsThePumpModel" "letter" "[I" ∈ TB := tbm 646 (by decide +kernel) (by decide +kernel)
theorem tf_X7_31 : Cond.fieldLink RX7 31 "LightAsFarAsThePumpModel" "value" "[I" ∈ TB := tbm 648 (by decide +kernel) (by decide +kernel)
theorem tf_X7_34 : Cond.fieldLink RX7 34 "LightAsFarAsThePumpModel" "row" "[I" ∈ TB := tbm 650 (by decide +kernel) (by decide +kernel)
theorem tf_X7_37 : Cond.fieldLink RX7 37 "LightAsFarAsThePumpModel" "refusals" "[I" ∈ TB := tbm 651 (by decide +kernel) (by decide +kernel)
theorem tf_X7_40 : Cond.fieldLink RX7 40 "LightAsFarAsThePumpModel" "old" "[I" ∈ TB := tbm 653 (by decide +kernel) (by decide +kernel)
theorem tf_X7_43 : Cond.fieldLink RX7 43 "LightAsFarAsThePumpModel" "ahead" "[I" ∈ TB := tbm 654 (by decide +kernel) (by decide +kernel)
theorem tf_X7_46 : Cond.fieldLink RX7 46 "LightAsFarAsThePumpModel" "order" "[I" ∈ TB := tbm 656 (by decide +kernel) (by decide +kernel)
theorem tf_X7_49 : Cond.fieldLink RX7 49 "LightAsFarAsThePumpModel" "lampAt" "[I" ∈ TB := tbm 658 (by decide +kernel) (by decide +kernel)
theorem tf_X7_52 : Cond.fieldLink RX7 52 "LightAsFarAsThePumpModel" "oil" "[I" ∈ TB := tbm 659 (by decide +kernel) (by decide +kernel)
theorem tf_X7_55 : Cond.fieldLink RX7 55 "LightAsFarAsThePumpModel" "dark" "[I" ∈ TB := tbm 660 (by decide +kernel) (by decide +kernel)
theorem tf_X7_58 : Cond.fieldLink RX7 58 "LightAsFarAsThePumpModel" "light" "[I" ∈ TB := tbm 661 (by decide +kernel) (by decide +kernel)
theorem tf_X7_61 : Cond.fieldLink RX7 61 "LightAsFarAsThePumpModel" "stood" "[I" ∈ TB := tbm 662 (by decide +kernel) (by decide +kernel)
theorem tf_X7_64 : Cond.fieldLink RX7 64 "LightAsFarAsThePumpModel" "had" "[I" ∈ TB := tbm 663 (by decide +kernel) (by decide +kernel)
theorem tf_X7_67 : Cond.fieldLink RX7 67 "LightAsFarAsThePumpModel" "ends" "[I" ∈ TB := tbm 665 (by decide +kernel) (by decide +kernel)
theorem tf_X7_70 : Cond.fieldLink RX7 70 "LightAsFarAsThePumpModel" "nets" "[I" ∈ TB := tbm 666 (by decide +kernel) (by decide +kernel)
theorem tf_X7_73 : Cond.fieldLink RX7 73 "LightAsFarAsThePumpModel" "best" "[I" ∈ TB := tbm 667 (by decide +kernel) (by decide +kernel)
theorem tf_X7_76 : Cond.fieldLink RX7 76 "LightAsFarAsThePumpModel" "groups" "[I" ∈ TB := tbm 668 (by decide +kernel) (by decide +kernel)
theorem tf_X7_84 : Cond.fieldLink RX7 84 "LightAsFarAsThePumpModel" "goers" "I" ∈ TB := tbm 638 (by decide +kernel) (by decide +kernel)
theorem tf_X7_92 : Cond.fieldLink RX7 92 "LightAsFarAsThePumpModel" "letters" "I" ∈ TB := tbm 645 (by decide +kernel) (by decide +kernel)
theorem tf_X7_95 : Cond.fieldLink RX7 95 "LightAsFarAsThePumpModel" "at" "I" ∈ TB := tbm 647 (by decide +kernel) (by decide +kernel)
theorem tf_X7_153 : Cond.fieldLink RX7 153 "LightAsFarAsThePumpModel" "lamps" "I" ∈ TB := tbm 657 (by decide +kernel) (by decide +kernel)
theorem tf_X7_163 : Cond.fieldLink RX7 163 "LightAsFarAsThePumpModel" "last" "I" ∈ TB := tbm 664 (by decide +kernel) (by decide +kernel)
theorem tf_X7_176 : Cond.fieldLink RX7 176 "LightAsFarAsThePumpModel" "going" "I" ∈ TB := tbm 655 (by decide +kernel) (by decide +kernel)
theorem tf_X7_214 : Cond.fieldLink RX7 214 "LightAsFarAsThePumpModel" "inRow" "I" ∈ TB := tbm 649 (by decide +kernel) (by decide +kernel)
theorem tf_X7_223 : Cond.fieldLink RX7 223 "LightAsFarAsThePumpModel" "imaged" "Z" ∈ TB := tbm 652 (by decide +kernel) (by decide +kernel)
theorem tm_X6_9 : Cond.methodLink RX6 9 yX0_init ∈ TB := tbm 66 (by decide +kernel) (by decide +kernel)
theorem tm_X6_24 : Cond.methodLink RX6 24 yX2_init ∈ TB := tbm 116 (by decide +kernel) (by decide +kernel)
theorem tm_X6_31 : Cond.methodLink RX6 31 yX5_init ∈ TB := tbm 130 (by decide +kernel) (by decide +kernel)
theorem tm_X6_38 : Cond.methodLink RX6 38 yX3_init ∈ TB := tbm 203 (by decide +kernel) (by decide +kernel)
theorem tm_X6_45 : Cond.methodLink RX6 45 yX1_init ∈ TB := tbm 225 (by decide +kernel) (by decide +kernel)
theorem tm_X6_65 : Cond.methodLink RX6 65 yX6_refuse ∈ TB := tbm 278 (by decide +kernel) (by decide +kernel)
theorem tm_X6_72 : Cond.methodLink RX6 72 yX2_add ∈ TB := tbm 286 (by decide +kernel) (by decide +kernel)
theorem tm_X6_76 : Cond.methodLink RX6 76 yX0_becomeLike ∈ TB := tbm 295 (by decide +kernel) (by decide +kernel)
theorem tm_X6_80 : Cond.methodLink RX6 80 yX2_tellTo ∈ TB := tbm 302 (by decide +kernel) (by decide +kernel)
theorem tm_X6_84 : Cond.methodLink RX6 84 yX0_knows ∈ TB := tbm 363 (by decide +kernel) (by decide +kernel)
theorem tm_X6_91 : Cond.methodLink RX6 91 yX4_at ∈ TB := tbm 282 (by decide +kernel) (by decide +kernel)
theorem tm_X6_109 : Cond.methodLink RX6 109 yX0_fetches ∈ TB := tbm 364 (by decide +kernel) (by decide +kernel)
theorem tm_X6_112 : Cond.methodLink RX6 112 yX0_darkStepCosts ∈ TB := tbm 368 (by decide +kernel) (by decide +kernel)
theorem tm_X6_115 : Cond.methodLink RX6 115 yX4_put ∈ TB := tbm 285 (by decide +kernel) (by decide +kernel)
theorem tm_X6_122 : Cond.methodLink RX6 122 yX0_settle ∈ TB := tbm 384 (by decide +kernel) (by decide +kernel)
theorem tm_X6_126 : Cond.methodLink RX6 126 yX5_byHours ∈ TB := tbm 389 (by decide +kernel) (by decide +kernel)
theorem tm_X6_138 : Cond.methodLink RX6 138 yX5_firstLamp ∈ TB := tbm 457 (by decide +kernel) (by decide +kernel)
theorem tm_X6_142 : Cond.methodLink RX6 142 yX5_oilLeft ∈ TB := tbm 458 (by decide +kernel) (by decide +kernel)
theorem tm_X6_166 : Cond.methodLink RX6 166 yX6_hourRefusal ∈ TB := tbm 470 (by decide +kernel) (by decide +kernel)
theorem tm_X6_173 : Cond.methodLink RX6 173 yX3_search ∈ TB := tbm 477 (by decide +kernel) (by decide +kernel)
theorem tm_X6_189 : Cond.methodLink RX6 189 yX6_refuseAmongAll ∈ TB := tbm 508 (by decide +kernel) (by decide +kernel)
theorem tm_X6_192 : Cond.methodLink RX6 192 yX0_sendHome ∈ TB := tbm 513 (by decide +kernel) (by decide +kernel)
theorem tm_X6_195 : Cond.methodLink RX6 195 yX6_isCell ∈ TB := tbm 521 (by decide +kernel) (by decide +kernel)
theorem tm_X6_201 : Cond.methodLink RX6 201 yX1_reckon ∈ TB := tbm 532 (by decide +kernel) (by decide +kernel)
theorem tm_X6_208 : Cond.methodLink RX6 208 yX1_fewestPayments ∈ TB := tbm 548 (by decide +kernel) (by decide +kernel)
theorem tm_X6_211 : Cond.methodLink RX6 211 Lib.Math.abs.name ∈ TB := tbm 560 (by decide +kernel) (by decide +kernel)
theorem tm_X6_216 : Cond.methodLink RX6 216 yX0_anybodyWithin ∈ TB := tbm 569 (by decide +kernel) (by decide +kernel)
theorem tm_X6_219 : Cond.methodLink RX6 219 yX6_valuesThatFitTheRow ∈ TB := tbm 577 (by decide +kernel) (by decide +kernel)
theorem tm_X6_223 : Cond.methodLink RX6 223 yX6_firstNotSo ∈ TB := tbm 581 (by decide +kernel) (by decide +kernel)
theorem tm_X6_226 : Cond.methodLink RX6 226 yX0_drawHours ∈ TB := tbm 605 (by decide +kernel) (by decide +kernel)
theorem tm_X6_229 : Cond.methodLink RX6 229 yX0_pump ∈ TB := tbm 612 (by decide +kernel) (by decide +kernel)
theorem tm_X6_232 : Cond.methodLink RX6 232 yX0_oil ∈ TB := tbm 625 (by decide +kernel) (by decide +kernel)
theorem tm_X6_235 : Cond.methodLink RX6 235 yX0_dark ∈ TB := tbm 626 (by decide +kernel) (by decide +kernel)
theorem tm_X6_237 : Cond.methodLink RX6 237 yX0_allSteps ∈ TB := tbm 627 (by decide +kernel) (by decide +kernel)
theorem tm_X0_30 : Cond.methodLink RX0 30 yX4_put ∈ TB := tbm 70 (by decide +kernel) (by decide +kernel)
theorem tm_X0_43 : Cond.methodLink RX0 43 yX4_copy ∈ TB := tbm 299 (by decide +kernel) (by decide +kernel)
theorem tm_X0_47 : Cond.methodLink RX0 47 yX4_at ∈ TB := tbm 338 (by decide +kernel) (by decide +kernel)
theorem tm_X0_54 : Cond.methodLink RX0 54 yX0_knows ∈ TB := tbm 343 (by decide +kernel) (by decide +kernel)
theorem tm_X0_58 : Cond.methodLink RX0 58 yX4_exchange ∈ TB := tbm 347 (by decide +kernel) (by decide +kernel)
theorem tm_X0_66 : Cond.methodLink RX0 66 Lib.Math.abs.name ∈ TB := tbm 435 (by decide +kernel) (by decide +kernel)
theorem tm_X0_72 : Cond.methodLink RX0 72 yX0_stepsOf ∈ TB := tbm 631 (by decide +kernel) (by decide +kernel)
theorem tm_X0_75 : Cond.methodLink RX0 75 yX0_dark ∈ TB := tbm 372 (by decide +kernel) (by decide +kernel)
theorem tm_X0_79 : Cond.methodLink RX0 79 Lib.Math.max.name ∈ TB := tbm 444 (by decide +kernel) (by decide +kernel)
theorem tm_X0_83 : Cond.methodLink RX0 83 Lib.Math.min.name ∈ TB := tbm 447 (by decide +kernel) (by decide +kernel)
theorem tm_X0_86 : Cond.methodLink RX0 86 yX0_pump ∈ TB := tbm 454 (by decide +kernel) (by decide +kernel)
theorem tm_X1_21 : Cond.methodLink RX1 21 yX4_put ∈ TB := tbm 536 (by decide +kernel) (by decide +kernel)
theorem tm_X1_36 : Cond.methodLink RX1 36 yX4_at ∈ TB := tbm 537 (by decide +kernel) (by decide +kernel)
theorem tm_X1_46 : Cond.methodLink RX1 46 yX1_stepsFarther ∈ TB := tbm 538 (by decide +kernel) (by decide +kernel)
theorem tm_X1_55 : Cond.methodLink RX1 55 Lib.Math.abs.name ∈ TB := tbm 541 (by decide +kernel) (by decide +kernel)
theorem tm_X1_61 : Cond.methodLink RX1 61 yX0_pump ∈ TB := tbm 542 (by decide +kernel) (by decide +kernel)
theorem tm_X1_65 : Cond.methodLink RX1 65 Lib.Math.max.name ∈ TB := tbm 543 (by decide +kernel) (by decide +kernel)
theorem tm_X1_69 : Cond.methodLink RX1 69 yX1_joinUp ∈ TB := tbm 552 (by decide +kernel) (by decide +kernel)
theorem tm_X2_19 : Cond.methodLink RX2 19 yX4_put ∈ TB := tbm 290 (by decide +kernel) (by decide +kernel)
theorem tm_X2_25 : Cond.methodLink RX2 25 yX2_firstOutOfPlace ∈ TB := tbm 306 (by decide +kernel) (by decide +kernel)
theorem tm_X2_29 : Cond.methodLink RX2 29 yX2_tellStatement ∈ TB := tbm 320 (by decide +kernel) (by decide +kernel)
theorem tm_X2_33 : Cond.methodLink RX2 33 yX4_at ∈ TB := tbm 310 (by decide +kernel) (by decide +kernel)
theorem tm_X2_37 : Cond.methodLink RX2 37 yX2_lengthOf ∈ TB := tbm 356 (by decide +kernel) (by decide +kernel)
theorem tm_X2_41 : Cond.methodLink RX2 41 yX2_digitsOf ∈ TB := tbm 311 (by decide +kernel) (by decide +kernel)
theorem tm_X2_44 : Cond.methodLink RX2 44 yX2_kindOf ∈ TB := tbm 314 (by decide +kernel) (by decide +kernel)
theorem tm_X2_49 : Cond.methodLink RX2 49 yX2_isDigit ∈ TB := tbm 317 (by decide +kernel) (by decide +kernel)
theorem tm_X2_53 : Cond.methodLink RX2 53 yX2_number ∈ TB := tbm 324 (by decide +kernel) (by decide +kernel)
theorem tm_X2_57 : Cond.methodLink RX2 57 yX0_add ∈ TB := tbm 328 (by decide +kernel) (by decide +kernel)
theorem tm_X2_61 : Cond.methodLink RX2 61 yX0_settle ∈ TB := tbm 332 (by decide +kernel) (by decide +kernel)
theorem tm_X2_65 : Cond.methodLink RX2 65 yX0_exchangeHours ∈ TB := tbm 339 (by decide +kernel) (by decide +kernel)
theorem tm_X2_68 : Cond.methodLink RX2 68 yX0_changeHour ∈ TB := tbm 352 (by decide +kernel) (by decide +kernel)
theorem tm_X3_31 : Cond.methodLink RX3 31 yX4_put ∈ TB := tbm 481 (by decide +kernel) (by decide +kernel)
theorem tm_X3_37 : Cond.methodLink RX3 37 yX5_inOrder ∈ TB := tbm 482 (by decide +kernel) (by decide +kernel)
theorem tm_X3_43 : Cond.methodLink RX3 43 yX5_firstLamp ∈ TB := tbm 486 (by decide +kernel) (by decide +kernel)
theorem tm_X3_47 : Cond.methodLink RX3 47 yX0_pump ∈ TB := tbm 487 (by decide +kernel) (by decide +kernel)
theorem tm_X3_50 : Cond.methodLink RX3 50 yX4_copy ∈ TB := tbm 488 (by decide +kernel) (by decide +kernel)
theorem tm_X3_54 : Cond.methodLink RX3 54 yX3_next ∈ TB := tbm 489 (by decide +kernel) (by decide +kernel)
theorem tm_X3_58 : Cond.methodLink RX3 58 yX4_at ∈ TB := tbm 493 (by decide +kernel) (by decide +kernel)
theorem tm_X3_62 : Cond.methodLink RX3 62 yX4_exchange ∈ TB := tbm 494 (by decide +kernel) (by decide +kernel)
theorem tm_X4_7 : Cond.methodLink RX4 7 yX4_at ∈ TB := tbm 350 (by decide +kernel) (by decide +kernel)
theorem tm_X4_13 : Cond.methodLink RX4 13 yX4_put ∈ TB := tbm 351 (by decide +kernel) (by decide +kernel)
theorem tm_X5_42 : Cond.methodLink RX5 42 yX4_at ∈ TB := tbm 410 (by decide +kernel) (by decide +kernel)
theorem tm_X5_48 : Cond.methodLink RX5 48 yX5_begin ∈ TB := tbm 393 (by decide +kernel) (by decide +kernel)
theorem tm_X5_61 : Cond.methodLink RX5 61 yX5_go ∈ TB := tbm 411 (by decide +kernel) (by decide +kernel)
theorem tm_X5_65 : Cond.methodLink RX5 65 yX5_firstLamp ∈ TB := tbm 415 (by decide +kernel) (by decide +kernel)
theorem tm_X5_69 : Cond.methodLink RX5 69 yX4_put ∈ TB := tbm 409 (by decide +kernel) (by decide +kernel)
theorem tm_X5_79 : Cond.methodLink RX5 79 yX0_pump ∈ TB := tbm 397 (by decide +kernel) (by decide +kernel)
theorem tm_X5_82 : Cond.methodLink RX5 82 yX0_oil ∈ TB := tbm 401 (by decide +kernel) (by decide +kernel)
theorem tm_X5_85 : Cond.methodLink RX5 85 yX5_addLamp ∈ TB := tbm 405 (by decide +kernel) (by decide +kernel)
theorem tm_X5_107 : Cond.methodLink RX5 107 yX5_lampThatHeHas ∈ TB := tbm 419 (by decide +kernel) (by decide +kernel)
theorem tm_X5_111 : Cond.methodLink RX5 111 yX5_goInTheDark ∈ TB := tbm 427 (by decide +kernel) (by decide +kernel)
theorem tm_X5_114 : Cond.methodLink RX5 114 yX5_goWithLamp ∈ TB := tbm 436 (by decide +kernel) (by decide +kernel)
theorem tm_X5_118 : Cond.methodLink RX5 118 yX0_darkStepCosts ∈ TB := tbm 456 (by decide +kernel) (by decide +kernel)
theorem tm_X5_125 : Cond.methodLink RX5 125 yX0_fetches ∈ TB := tbm 423 (by decide +kernel) (by decide +kernel)
theorem tm_X5_128 : Cond.methodLink RX5 128 Lib.Math.abs.name ∈ TB := tbm 424 (by decide +kernel) (by decide +kernel)
theorem tm_X5_133 : Cond.methodLink RX5 133 yX0_stepsOf ∈ TB := tbm 431 (by decide +kernel) (by decide +kernel)
theorem tm_X5_136 : Cond.methodLink RX5 136 yX0_carriesTo ∈ TB := tbm 440 (by decide +kernel) (by decide +kernel)
theorem tm_X5_140 : Cond.methodLink RX5 140 yX0_bringsTo ∈ TB := tbm 450 (by decide +kernel) (by decide +kernel)
theorem tm_X5_146 : Cond.methodLink RX5 146 Lib.Math.min.name ∈ TB := tbm 455 (by decide +kernel) (by decide +kernel)
theorem tm_L_9 : Cond.methodLink RL 9 yX6_init ∈ TB := tbm 58 (by decide +kernel) (by decide +kernel)
theorem tm_L_12 : Cond.methodLink RL 12 yX7_init ∈ TB := tbm 634 (by decide +kernel) (by decide +kernel)
theorem tm_L_13 : Cond.methodLink RL 13 yX6_letter ∈ TB := tbm 274 (by decide +kernel) (by decide +kernel)
theorem tm_L_17 : Cond.methodLink RL 17 yX7_letter ∈ TB := tbm 732 (by decide +kernel) (by decide +kernel)
theorem tm_L_18 : Cond.methodLink RL 18 yX6_night ∈ TB := tbm 291 (by decide +kernel) (by decide +kernel)
theorem tm_L_22 : Cond.methodLink RL 22 yX7_night ∈ TB := tbm 740 (by decide +kernel) (by decide +kernel)
theorem tm_L_23 : Cond.methodLink RL 23 yX6_goer ∈ TB := tbm 359 (by decide +kernel) (by decide +kernel)
theorem tm_L_27 : Cond.methodLink RL 27 yX7_goer ∈ TB := tbm 865 (by decide +kernel) (by decide +kernel)
theorem tm_L_28 : Cond.methodLink RL 28 yX6_hour ∈ TB := tbm 376 (by decide +kernel) (by decide +kernel)
theorem tm_L_31 : Cond.methodLink RL 31 yX7_hour ∈ TB := tbm 877 (by decide +kernel) (by decide +kernel)
theorem tm_L_32 : Cond.methodLink RL 32 yX6_set ∈ TB := tbm 380 (by decide +kernel) (by decide +kernel)
theorem tm_L_35 : Cond.methodLink RL 35 yX7_set ∈ TB := tbm 881 (by decide +kernel) (by decide +kernel)
theorem tm_L_36 : Cond.methodLink RL 36 yX6_sums ∈ TB := tbm 385 (by decide +kernel) (by decide +kernel)
theorem tm_L_39 : Cond.methodLink RL 39 yX7_sums ∈ TB := tbm 888 (by decide +kernel) (by decide +kernel)
theorem tm_L_40 : Cond.methodLink RL 40 yX6_of ∈ TB := tbm 462 (by decide +kernel) (by decide +kernel)
theorem tm_L_43 : Cond.methodLink RL 43 yX7_of ∈ TB := tbm 930 (by decide +kernel) (by decide +kernel)
theorem tm_L_44 : Cond.methodLink RL 44 yX6_lamp ∈ TB := tbm 466 (by decide +kernel) (by decide +kernel)
theorem tm_L_47 : Cond.methodLink RL 47 yX7_lamp ∈ TB := tbm 934 (by decide +kernel) (by decide +kernel)
theorem tm_L_48 : Cond.methodLink RL 48 yX6_best ∈ TB := tbm 473 (by decide +kernel) (by decide +kernel)
theorem tm_L_51 : Cond.methodLink RL 51 yX7_best ∈ TB := tbm 938 (by decide +kernel) (by decide +kernel)
theorem tm_L_52 : Cond.methodLink RL 52 yX6_bestPump ∈ TB := tbm 495 (by decide +kernel) (by decide +kernel)
theorem tm_L_55 : Cond.methodLink RL 55 yX7_bestPump ∈ TB := tbm 950 (by decide +kernel) (by decide +kernel)
theorem tm_L_56 : Cond.methodLink RL 56 yX6_bestHour ∈ TB := tbm 500 (by decide +kernel) (by decide +kernel)
theorem tm_L_59 : Cond.methodLink RL 59 yX7_bestHour ∈ TB := tbm 958 (by decide +kernel) (by decide +kernel)
theorem tm_L_60 : Cond.methodLink RL 60 yX6_without ∈ TB := tbm 504 (by decide +kernel) (by decide +kernel)
theorem tm_L_63 : Cond.methodLink RL 63 yX7_without ∈ TB := tbm 962 (by decide +kernel) (by decide +kernel)
theorem tm_L_64 : Cond.methodLink RL 64 yX6_second ∈ TB := tbm 517 (by decide +kernel) (by decide +kernel)
theorem tm_L_67 : Cond.methodLink RL 67 yX7_second ∈ TB := tbm 971 (by decide +kernel) (by decide +kernel)
theorem tm_L_68 : Cond.methodLink RL 68 yX6_bestSecond ∈ TB := tbm 524 (by decide +kernel) (by decide +kernel)
theorem tm_L_71 : Cond.methodLink RL 71 yX7_bestSecond ∈ TB := tbm 979 (by decide +kernel) (by decide +kernel)
theorem tm_L_72 : Cond.methodLink RL 72 yX6_net ∈ TB := tbm 528 (by decide +kernel) (by decide +kernel)
theorem tm_L_75 : Cond.methodLink RL 75 yX7_net ∈ TB := tbm 983 (by decide +kernel) (by decide +kernel)
theorem tm_L_76 : Cond.methodLink RL 76 yX6_payments ∈ TB := tbm 544 (by decide +kernel) (by decide +kernel)
theorem tm_L_79 : Cond.methodLink RL 79 yX7_payments ∈ TB := tbm 992 (by decide +kernel) (by decide +kernel)
theorem tm_L_80 : Cond.methodLink RL 80 yX6_near ∈ TB := tbm 556 (by decide +kernel) (by decide +kernel)
theorem tm_L_83 : Cond.methodLink RL 83 yX7_near ∈ TB := tbm 996 (by decide +kernel) (by decide +kernel)
theorem tm_L_84 : Cond.methodLink RL 84 yX6_midwife ∈ TB := tbm 561 (by decide +kernel) (by decide +kernel)
theorem tm_L_87 : Cond.methodLink RL 87 yX7_midwife ∈ TB := tbm 1000 (by decide +kernel) (by decide +kernel)
theorem tm_L_88 : Cond.methodLink RL 88 yX6_watch ∈ TB := tbm 565 (by decide +kernel) (by decide +kernel)
theorem tm_L_91 : Cond.methodLink RL 91 yX7_watch ∈ TB := tbm 1004 (by decide +kernel) (by decide +kernel)
theorem tm_L_92 : Cond.methodLink RL 92 yX6_whoHad ∈ TB := tbm 573 (by decide +kernel) (by decide +kernel)
theorem tm_L_95 : Cond.methodLink RL 95 yX7_whoHad ∈ TB := tbm 1008 (by decide +kernel) (by decide +kernel)
theorem tm_L_96 : Cond.methodLink RL 96 yX6_leastOil ∈ TB := tbm 585 (by decide +kernel) (by decide +kernel)
theorem tm_L_99 : Cond.methodLink RL 99 yX7_leastOil ∈ TB := tbm 1016 (by decide +kernel) (by decide +kernel)
theorem tm_L_100 : Cond.methodLink RL 100 yX6_row ∈ TB := tbm 589 (by decide +kernel) (by decide +kernel)
theorem tm_L_103 : Cond.methodLink RL 103 yX7_row ∈ TB := tbm 1020 (by decide +kernel) (by decide +kernel)
theorem tm_L_104 : Cond.methodLink RL 104 yX6_judge ∈ TB := tbm 593 (by decide +kernel) (by decide +kernel)
theorem tm_L_107 : Cond.methodLink RL 107 yX7_judge ∈ TB := tbm 1024 (by decide +kernel) (by decide +kernel)
theorem tm_L_108 : Cond.methodLink RL 108 yX6_clear ∈ TB := tbm 597 (by decide +kernel) (by decide +kernel)
theorem tm_L_111 : Cond.methodLink RL 111 yX7_clear ∈ TB := tbm 1028 (by decide +kernel) (by decide +kernel)
theorem tm_L_112 : Cond.methodLink RL 112 yX6_lots ∈ TB := tbm 601 (by decide +kernel) (by decide +kernel)
theorem tm_L_116 : Cond.methodLink RL 116 yX7_lots ∈ TB := tbm 1032 (by decide +kernel) (by decide +kernel)
theorem tm_L_117 : Cond.methodLink RL 117 yX6_image ∈ TB := tbm 613 (by decide +kernel) (by decide +kernel)
theorem tm_L_120 : Cond.methodLink RL 120 yX7_image ∈ TB := tbm 1039 (by decide +kernel) (by decide +kernel)
theorem tm_L_121 : Cond.methodLink RL 121 yX6_on ∈ TB := tbm 617 (by decide +kernel) (by decide +kernel)
theorem tm_L_124 : Cond.methodLink RL 124 yX7_on ∈ TB := tbm 1043 (by decide +kernel) (by decide +kernel)
theorem tm_L_125 : Cond.methodLink RL 125 yX6_count ∈ TB := tbm 621 (by decide +kernel) (by decide +kernel)
theorem tm_L_128 : Cond.methodLink RL 128 yX7_count ∈ TB := tbm 1047 (by decide +kernel) (by decide +kernel)
theorem tm_X7_80 : Cond.methodLink RX7 80 yX7_no ∈ TB := tbm 736 (by decide +kernel) (by decide +kernel)
theorem tm_X7_88 : Cond.methodLink RX7 88 yX7_within ∈ TB := tbm 846 (by decide +kernel) (by decide +kernel)
theorem tm_X7_98 : Cond.methodLink RX7 98 yX7_is ∈ TB := tbm 748 (by decide +kernel) (by decide +kernel)
theorem tm_X7_104 : Cond.methodLink RX7 104 yJ0_indexOf_0f7a4 ∈ TB := tbm 753 (by decide +kernel) (by decide +kernel)
theorem tm_X7_109 : Cond.methodLink RX7 109 yX7_digits ∈ TB := tbm 835 (by decide +kernel) (by decide +kernel)
theorem tm_X7_112 : Cond.methodLink RX7 112 yX7_two ∈ TB := tbm 839 (by decide +kernel) (by decide +kernel)
theorem tm_X7_115 : Cond.methodLink RX7 115 yX7_isCell ∈ TB := tbm 843 (by decide +kernel) (by decide +kernel)
theorem tm_X7_118 : Cond.methodLink RX7 118 yX7_isHour ∈ TB := tbm 849 (by decide +kernel) (by decide +kernel)
theorem tm_X7_121 : Cond.methodLink RX7 121 yX7_isGoer ∈ TB := tbm 852 (by decide +kernel) (by decide +kernel)
theorem tm_X7_124 : Cond.methodLink RX7 124 yX7_statement ∈ TB := tbm 744 (by decide +kernel) (by decide +kernel)
theorem tm_X7_128 : Cond.methodLink RX7 128 yX7_keep ∈ TB := tbm 856 (by decide +kernel) (by decide +kernel)
theorem tm_X7_132 : Cond.methodLink RX7 132 yX7_again ∈ TB := tbm 860 (by decide +kernel) (by decide +kernel)
theorem tm_X7_135 : Cond.methodLink RX7 135 yX7_fetches ∈ TB := tbm 869 (by decide +kernel) (by decide +kernel)
theorem tm_X7_138 : Cond.methodLink RX7 138 yX7_costs ∈ TB := tbm 873 (by decide +kernel) (by decide +kernel)
theorem tm_X7_141 : Cond.methodLink RX7 141 yX7_mostOf ∈ TB := tbm 885 (by decide +kernel) (by decide +kernel)
theorem tm_X7_144 : Cond.methodLink RX7 144 Lib.Math.abs.name ∈ TB := tbm 912 (by decide +kernel) (by decide +kernel)
theorem tm_X7_149 : Cond.methodLink RX7 149 Lib.Math.min.name ∈ TB := tbm 925 (by decide +kernel) (by decide +kernel)
theorem tm_X7_156 : Cond.methodLink RX7 156 yX7_nearer ∈ TB := tbm 908 (by decide +kernel) (by decide +kernel)
theorem tm_X7_159 : Cond.methodLink RX7 159 yX7_walksDark ∈ TB := tbm 913 (by decide +kernel) (by decide +kernel)
theorem tm_X7_166 : Cond.methodLink RX7 166 yX7_carriedTo ∈ TB := tbm 917 (by decide +kernel) (by decide +kernel)
theorem tm_X7_169 : Cond.methodLink RX7 169 yX7_carries ∈ TB := tbm 921 (by decide +kernel) (by decide +kernel)
theorem tm_X7_172 : Cond.methodLink RX7 172 yX7_sets ∈ TB := tbm 900 (by decide +kernel) (by decide +kernel)
theorem tm_X7_179 : Cond.methodLink RX7 179 yX7_goes ∈ TB := tbm 904 (by decide +kernel) (by decide +kernel)
theorem tm_X7_182 : Cond.methodLink RX7 182 yX7_run ∈ TB := tbm 896 (by decide +kernel) (by decide +kernel)
theorem tm_X7_186 : Cond.methodLink RX7 186 yX7_run_ ∈ TB := tbm 892 (by decide +kernel) (by decide +kernel)
theorem tm_X7_188 : Cond.methodLink RX7 188 yX7_cost ∈ TB := tbm 926 (by decide +kernel) (by decide +kernel)
theorem tm_X7_192 : Cond.methodLink RX7 192 yX7_swap ∈ TB := tbm 946 (by decide +kernel) (by decide +kernel)
theorem tm_X7_195 : Cond.methodLink RX7 195 yX7_nextOrder ∈ TB := tbm 942 (by decide +kernel) (by decide +kernel)
theorem tm_X7_199 : Cond.methodLink RX7 199 yX7_costNow ∈ TB := tbm 954 (by decide +kernel) (by decide +kernel)
theorem tm_X7_202 : Cond.methodLink RX7 202 yX7_noMuch ∈ TB := tbm 966 (by decide +kernel) (by decide +kernel)
theorem tm_X7_205 : Cond.methodLink RX7 205 yX7_secondAt ∈ TB := tbm 975 (by decide +kernel) (by decide +kernel)
theorem tm_X7_208 : Cond.methodLink RX7 208 Lib.Math.max.name ∈ TB := tbm 991 (by decide +kernel) (by decide +kernel)
theorem tm_X7_211 : Cond.methodLink RX7 211 yX7_owe ∈ TB := tbm 987 (by decide +kernel) (by decide +kernel)
theorem tm_X7_217 : Cond.methodLink RX7 217 yX7_wrong ∈ TB := tbm 1012 (by decide +kernel) (by decide +kernel)
theorem tc_X6_188 : Jvm.Cond.constant RX6 188 2147483647 ∈ TB := tbm 499 (by decide +kernel) (by decide +kernel)
theorem tc_X6_240 : Jvm.Cond.constant RX6 240 1000000000 ∈ TB := tbm 512 (by decide +kernel) (by decide +kernel)
theorem tc_X0_61 : Jvm.Cond.constant RX0 61 1664525 ∈ TB := tbm 609 (by decide +kernel) (by decide +kernel)
theorem tc_X0_62 : Jvm.Cond.constant RX0 62 1013904223 ∈ TB := tbm 610 (by decide +kernel) (by decide +kernel)
theorem tc_X0_65 : Jvm.Cond.constant RX0 65 2147483647 ∈ TB := tbm 611 (by decide +kernel) (by decide +kernel)
theorem tc_X7_79 : Jvm.Cond.constant RX7 79 1000000000 ∈ TB := tbm 970 (by decide +kernel) (by decide +kernel)
theorem tc_X7_220 : Jvm.Cond.constant RX7 220 1664525 ∈ TB := tbm 1036 (by decide +kernel) (by decide +kernel)
theorem tc_X7_221 : Jvm.Cond.constant RX7 221 1013904223 ∈ TB := tbm 1037 (by decide +kernel) (by decide +kernel)
theorem tc_X7_222 : Jvm.Cond.constant RX7 222 2147483647 ∈ TB := tbm 1038 (by decide +kernel) (by decide +kernel)
theorem lk_X0_becomeLike : LkV yX0_becomeLike cX0_becomeLike 2 none 1 := ⟨⟨tbm 296 (by decide +kernel) (by decide +kernel), tbm 297 (by decide +kernel) (by decide +kernel)⟩, tbm 43 (by decide +kernel) (by decide +kernel), tbm 298 (by decide +kernel) (by decide +kernel), by decide +kernel⟩
theorem lk_X0_pump : LkV yX0_pump cX0_pump 1 (some .int) 0 := ⟨⟨tbm 398 (by decide +kernel) (by decide +kernel), tbm 399 (by decide +kernel) (by decide +kernel)⟩, tbm 43 (by decide +kernel) (by decide +kernel), tbm 400 (by decide +kernel) (by decide +kernel), by decide +kernel⟩
theorem lk_X0_oil : LkV yX0_oil cX0_oil 1 (some .int) 0 := ⟨⟨tbm 402 (by decide +kernel) (by decide +kernel), tbm 403 (by decide +kernel) (by decide +kernel)⟩, tbm 43 (by decide +kernel) (by decide +kernel), tbm 404 (by decide +kernel) (by decide +kernel), by decide +kernel⟩
theorem lk_X0_dark : LkV yX0_dark cX0_dark 1 (some .int) 0 := ⟨⟨tbm 373 (by decide +kernel) (by decide +kernel), tbm 374 (by decide +kernel) (by decide +kernel)⟩, tbm 43 (by decide +kernel) (by decide +kernel), tbm 375 (by decide +kernel) (by decide +kernel), by decide +kernel⟩
theorem lk_X0_knows : LkV yX0_knows cX0_knows 2 (some .boolean) 1 := ⟨⟨tbm 344 (by decide +kernel) (by decide +kernel), tbm 345 (by decide +kernel) (by decide +kernel)⟩, tbm 43 (by decide +kernel) (by decide +kernel), tbm 346 (by decide +kernel) (by decide +kernel), by decide +kernel⟩
theorem lk_X0_settle : LkV yX0_settle cX0_settle 3 (some .boolean) 2 := ⟨⟨tbm 333 (by decide +kernel) (by decide +kernel), tbm 334 (by decide +kernel) (by decide +kernel)⟩, tbm 43 (by decide +kernel) (by decide +kernel), tbm 335 (by decide +kernel) (by decide +kernel), by decide +kernel⟩
theorem lk_X0_add : LkV yX0_add cX0_add 6 (some .boolean) 5 := ⟨⟨tbm 329 (by decide +kernel) (by decide +kernel), tbm 330 (by decide +kernel) (by decide +kernel)⟩, tbm 43 (by decide +kernel) (by decide +kernel), tbm 331 (by decide +kernel) (by decide +kernel), by decide +kernel⟩
theorem lk_X0_exchangeHours : LkV yX0_exchangeHours cX0_exchangeHours 3 (some .boolean) 2 := ⟨⟨tbm 340 (by decide +kernel) (by decide +kernel), tbm 341 (by decide +kernel) (by decide +kernel)⟩, tbm 43 (by decide +kernel) (by decide +kernel), tbm 342 (by decide +kernel) (by decide +kernel), by decide +kernel⟩
theorem lk_X0_changeHour : LkV yX0_changeHour cX0_changeHour 3 (some .boolean) 2 := ⟨⟨tbm 353 (by decide +kernel) (by decide +kernel), tbm 354 (by decide +kernel) (by decide +kernel)⟩, tbm 43 (by decide +kernel) (by decide +kernel), tbm 355 (by decide +kernel) (by decide +kernel), by decide +kernel⟩
theorem lk_X0_sendHome : LkV yX0_sendHome cX0_sendHome 3 none 1 := ⟨⟨tbm 514 (by decide +kernel) (by decide +kernel), tbm 515 (by decide +kernel) (by decide +kernel)⟩, tbm 43 (by decide +kernel) (by decide +kernel), tbm 516 (by decide +kernel) (by decide +kernel), by decide +kernel⟩
theorem lk_X0_drawHours : LkV yX0_drawHours cX0_drawHours 4 (some .int) 1 := ⟨⟨tbm 606 (by decide +kernel) (by decide +kernel), tbm 607 (by decide +kernel) (by decide +kernel)⟩, tbm 43 (by decide +kernel) (by decide +kernel), tbm 608 (by decide +kernel) (by decide +kernel), by decide +kernel⟩
theorem lk_X0_stepsOf : LkV yX0_stepsOf cX0_stepsOf 2 (some .int) 1 := ⟨⟨tbm 432 (by decide +kernel) (by decide +kernel), tbm 433 (by decide +kernel) (by decide +kernel)⟩, tbm 43 (by decide +kernel) (by decide +kernel), tbm 434 (by decide +kernel) (by decide +kernel), by decide +kernel⟩
theorem lk_X0_allSteps : LkV yX0_allSteps cX0_allSteps 3 (some .int) 0 := ⟨⟨tbm 628 (by decide +kernel) (by decide +kernel), tbm 629 (by decide +kernel) (by decide +kernel)⟩, tbm 43 (by decide +kernel) (by decide +kernel), tbm 630 (by decide +kernel) (by decide +kernel), by decide +kernel⟩
theorem lk_X0_anybodyWithin : LkV yX0_anybodyWithin cX0_anybodyWithin 4 (some .boolean) 2 := ⟨⟨tbm 570 (by decide +kernel) (by decide +kernel), tbm 571 (by decide +kernel) (by decide +kernel)⟩, tbm 43 (by decide +kernel) (by decide +kernel), tbm 572 (by decide +kernel) (by decide +kernel), by decide +kernel⟩
theorem lk_X0_fetches : LkV yX0_fetches cX0_fetches 2 (some .int) 1 := ⟨⟨tbm 365 (by decide +kernel) (by decide +kernel), tbm 366 (by decide +kernel) (by decide +kernel)⟩, tbm 43 (by decide +kernel) (by decide +kernel), tbm 367 (by decide +kernel) (by decide +kernel), by decide +kernel⟩
theorem lk_X0_darkStepCosts : LkV yX0_darkStepCosts cX0_darkStepCosts 2 (some .int) 1 := ⟨⟨tbm 369 (by decide +kernel) (by decide +kernel), tbm 370 (by decide +kernel) (by decide +kernel)⟩, tbm 43 (by decide +kernel) (by decide +kernel), tbm 371 (by decide +kernel) (by decide +kernel), by decide +kernel⟩
theorem lk_X0_carriesTo : LkV yX0_carriesTo cX0_carriesTo 5 (some .int) 2 := ⟨⟨tbm 441 (by decide +kernel) (by decide +kernel), tbm 442 (by decide +kernel) (by decide +kernel)⟩, tbm 43 (by decide +kernel) (by decide +kernel), tbm 443 (by decide +kernel) (by decide +kernel), by decide +kernel⟩
theorem lk_X0_bringsTo : LkV yX0_bringsTo cX0_bringsTo 3 (some .int) 2 := ⟨⟨tbm 451 (by decide +kernel) (by decide +kernel), tbm 452 (by decide +kernel) (by decide +kernel)⟩, tbm 43 (by decide +kernel) (by decide +kernel), tbm 453 (by decide +kernel) (by decide +kernel), by decide +kernel⟩
theorem lk_X1_reckon : LkV yX1_reckon cX1_reckon 7 none 2 := ⟨⟨tbm 533 (by decide +kernel) (by decide +kernel), tbm 534 (by decide +kernel) (by decide +kernel)⟩, tbm 48 (by decide +kernel) (by decide +kernel), tbm 535 (by decide +kernel) (by decide +kernel), by decide +kernel⟩
theorem lk_X1_stepsFarther : LkS yX1_stepsFarther cX1_stepsFarther 4 (some .int) 3 := ⟨tbm 539 (by decide +kernel) (by decide +kernel), tbm 48 (by decide +kernel) (by decide +kernel), tbm 540 (by decide +kernel) (by decide +kernel), by decide +kernel⟩
theorem lk_X1_fewestPayments : LkV yX1_fewestPayments cX1_fewestPayments 4 (some .int) 1 := ⟨⟨tbm 549 (by decide +kernel) (by decide +kernel), tbm 550 (by decide +kernel) (by decide +kernel)⟩, tbm 48 (by decide +kernel) (by decide +kernel), tbm 551 (by decide +kernel) (by decide +kernel), by decide +kernel⟩
theorem lk_X1_joinUp : LkV yX1_joinUp cX1_joinUp 6 none 2 := ⟨⟨tbm 554 (by decide +kernel) (by decide +kernel), tbm 12 (by decide +kernel) (by decide +kernel)⟩, tbm 48 (by decide +kernel) (by decide +kernel), tbm 555 (by decide +kernel) (by decide +kernel), by decide +kernel⟩
theorem lk_X2_add : LkV yX2_add cX2_add 2 none 1 := ⟨⟨tbm 287 (by decide +kernel) (by decide +kernel), tbm 288 (by decide +kernel) (by decide +kernel)⟩, tbm 45 (by decide +kernel) (by decide +kernel), tbm 289 (by decide +kernel) (by decide +kernel), by decide +kernel⟩
theorem lk_X2_tellTo : LkV yX2_tellTo cX2_tellTo 5 (some .int) 1 := ⟨⟨tbm 303 (by decide +kernel) (by decide +kernel), tbm 304 (by decide +kernel) (by decide +kernel)⟩, tbm 45 (by decide +kernel) (by decide +kernel), tbm 305 (by decide +kernel) (by decide +kernel), by decide +kernel⟩
theorem lk_X2_firstOutOfPlace : LkV yX2_firstOutOfPlace cX2_firstOutOfPlace 6 (some .int) 0 := ⟨⟨tbm 308 (by decide +kernel) (by decide +kernel), tbm 1 (by decide +kernel) (by decide +kernel)⟩, tbm 45 (by decide +kernel) (by decide +kernel), tbm 309 (by decide +kernel) (by decide +kernel), by decide +kernel⟩
theorem lk_X2_tellStatement : LkV yX2_tellStatement cX2_tellStatement 3 (some .boolean) 2 := ⟨⟨tbm 322 (by decide +kernel) (by decide +kernel), tbm 2 (by decide +kernel) (by decide +kernel)⟩, tbm 45 (by decide +kernel) (by decide +kernel), tbm 323 (by decide +kernel) (by decide +kernel), by decide +kernel⟩
theorem lk_X2_number : LkV yX2_number cX2_number 5 (some .int) 2 := ⟨⟨tbm 326 (by decide +kernel) (by decide +kernel), tbm 3 (by decide +kernel) (by decide +kernel)⟩, tbm 45 (by decide +kernel) (by decide +kernel), tbm 327 (by decide +kernel) (by decide +kernel), by decide +kernel⟩
theorem lk_X2_digitsOf : LkS yX2_digitsOf cX2_digitsOf 1 (some .int) 1 := ⟨tbm 312 (by decide +kernel) (by decide +kernel), tbm 45 (by decide +kernel) (by decide +kernel), tbm 313 (by decide +kernel) (by decide +kernel), by decide +kernel⟩
theorem lk_X2_lengthOf : LkS yX2_lengthOf cX2_lengthOf 2 (some .int) 1 := ⟨tbm 357 (by decide +kernel) (by decide +kernel), tbm 45 (by decide +kernel) (by decide +kernel), tbm 358 (by decide +kernel) (by decide +kernel), by decide +kernel⟩
theorem lk_X2_kindOf : LkS yX2_kindOf cX2_kindOf 1 (some .int) 1 := ⟨tbm 315 (by decide +kernel) (by decide +kernel), tbm 45 (by decide +kernel) (by decide +kernel), tbm 316 (by decide +kernel) (by decide +kernel), by decide +kernel⟩
theorem lk_X2_isDigit : LkS yX2_isDigit cX2_isDigit 1 (some .boolean) 1 := ⟨tbm 318 (by decide +kernel) (by decide +kernel), tbm 45 (by decide +kernel) (by decide +kernel), tbm 319 (by decide +kernel) (by decide +kernel), by decide +kernel⟩
theorem lk_X3_search : LkV yX3_search cX3_search 8 none 3 := ⟨⟨tbm 478 (by decide +kernel) (by decide +kernel), tbm 479 (by decide +kernel) (by decide +kernel)⟩, tbm 47 (by decide +kernel) (by decide +kernel), tbm 480 (by decide +kernel) (by decide +kernel), by decide +kernel⟩
theorem lk_X3_next : LkV yX3_next cX3_next 6 (some .boolean) 1 := ⟨⟨tbm 491 (by decide +kernel) (by decide +kernel), tbm 10 (by decide +kernel) (by decide +kernel)⟩, tbm 47 (by decide +kernel) (by decide +kernel), tbm 492 (by decide +kernel) (by decide +kernel), by decide +kernel⟩
theorem lk_X4_at : LkS yX4_at cX4_at 2 (some .int) 2 := ⟨tbm 283 (by decide +kernel) (by decide +kernel), tbm 44 (by decide +kernel) (by decide +kernel), tbm 284 (by decide +kernel) (by decide +kernel), by decide +kernel⟩
theorem lk_X4_put : LkS yX4_put cX4_put 3 none 3 := ⟨tbm 71 (by decide +kernel) (by decide +kernel), tbm 44 (by decide +kernel) (by decide +kernel), tbm 72 (by decide +kernel) (by decide +kernel), by decide +kernel⟩
theorem lk_X4_copy : LkS yX4_copy cX4_copy 3 none 2 := ⟨tbm 300 (by decide +kernel) (by decide +kernel), tbm 44 (by decide +kernel) (by decide +kernel), tbm 301 (by decide +kernel) (by decide +kernel), by decide +kernel⟩
theorem lk_X4_exchange : LkS yX4_exchange cX4_exchange 4 none 3 := ⟨tbm 348 (by decide +kernel) (by decide +kernel), tbm 44 (by decide +kernel) (by decide +kernel), tbm 349 (by decide +kernel) (by decide +kernel), by decide +kernel⟩
theorem lk_X5_firstLamp : LkV yX5_firstLamp cX5_firstLamp 1 (some .int) 0 := ⟨⟨tbm 416 (by decide +kernel) (by decide +kernel), tbm 417 (by decide +kernel) (by decide +kernel)⟩, tbm 46 (by decide +kernel) (by decide +kernel), tbm 418 (by decide +kernel) (by decide +kernel), by decide +kernel⟩
theorem lk_X5_oilLeft : LkV yX5_oilLeft cX5_oilLeft 1 (some .int) 0 := ⟨⟨tbm 459 (by decide +kernel) (by decide +kernel), tbm 460 (by decide +kernel) (by decide +kernel)⟩, tbm 46 (by decide +kernel) (by decide +kernel), tbm 461 (by decide +kernel) (by decide +kernel), by decide +kernel⟩
theorem lk_X5_byHours : LkV yX5_byHours cX5_byHours 4 (some .int) 1 := ⟨⟨tbm 390 (by decide +kernel) (by decide +kernel), tbm 391 (by decide +kernel) (by decide +kernel)⟩, tbm 46 (by decide +kernel) (by decide +kernel), tbm 392 (by decide +kernel) (by decide +kernel), by decide +kernel⟩
theorem lk_X5_inOrder : LkV yX5_inOrder cX5_inOrder 4 (some .int) 2 := ⟨⟨tbm 483 (by decide +kernel) (by decide +kernel), tbm 484 (by decide +kernel) (by decide +kernel)⟩, tbm 46 (by decide +kernel) (by decide +kernel), tbm 485 (by decide +kernel) (by decide +kernel), by decide +kernel⟩
theorem lk_X5_begin : LkV yX5_begin cX5_begin 2 none 1 := ⟨⟨tbm 395 (by decide +kernel) (by decide +kernel), tbm 4 (by decide +kernel) (by decide +kernel)⟩, tbm 46 (by decide +kernel) (by decide +kernel), tbm 396 (by decide +kernel) (by decide +kernel), by decide +kernel⟩
theorem lk_X5_addLamp : LkV yX5_addLamp cX5_addLamp 3 none 2 := ⟨⟨tbm 407 (by decide +kernel) (by decide +kernel), tbm 5 (by decide +kernel) (by decide +kernel)⟩, tbm 46 (by decide +kernel) (by decide +kernel), tbm 408 (by decide +kernel) (by decide +kernel), by decide +kernel⟩
theorem lk_X5_go : LkV yX5_go cX5_go 5 none 2 := ⟨⟨tbm 413 (by decide +kernel) (by decide +kernel), tbm 6 (by decide +kernel) (by decide +kernel)⟩, tbm 46 (by decide +kernel) (by decide +kernel), tbm 414 (by decide +kernel) (by decide +kernel), by decide +kernel⟩
theorem lk_X5_lampThatHeHas : LkV yX5_lampThatHeHas cX5_lampThatHeHas 8 (some .int) 2 := ⟨⟨tbm 421 (by decide +kernel) (by decide +kernel), tbm 7 (by decide +kernel) (by decide +kernel)⟩, tbm 46 (by decide +kernel) (by decide +kernel), tbm 422 (by decide +kernel) (by decide +kernel), by decide +kernel⟩
theorem lk_X5_goInTheDark : LkV yX5_goInTheDark cX5_goInTheDark 3 none 2 := ⟨⟨tbm 429 (by decide +kernel) (by decide +kernel), tbm 8 (by decide +kernel) (by decide +kernel)⟩, tbm 46 (by decide +kernel) (by decide +kernel), tbm 430 (by decide +kernel) (by decide +kernel), by decide +kernel⟩
theorem lk_X5_goWithLamp : LkV yX5_goWithLamp cX5_goWithLamp 11 none 3 := ⟨⟨tbm 438 (by decide +kernel) (by decide +kernel), tbm 9 (by decide +kernel) (by decide +kernel)⟩, tbm 46 (by decide +kernel) (by decide +kernel), tbm 439 (by decide +kernel) (by decide +kernel), by decide +kernel⟩
theorem lk_X6_letter : LkV yX6_letter cX6_letter 2 (some .int) 1 := ⟨⟨tbm 275 (by decide +kernel) (by decide +kernel), tbm 276 (by decide +kernel) (by decide +kernel)⟩, tbm 42 (by decide +kernel) (by decide +kernel), tbm 277 (by decide +kernel) (by decide +kernel), by decide +kernel⟩
theorem lk_X6_night : LkV yX6_night cX6_night 2 (some .int) 0 := ⟨⟨tbm 292 (by decide +kernel) (by decide +kernel), tbm 293 (by decide +kernel) (by decide +kernel)⟩, tbm 42 (by decide +kernel) (by decide +kernel), tbm 294 (by decide +kernel) (by decide +kernel), by decide +kernel⟩
theorem lk_X6_goer : LkV yX6_goer cX6_goer 3 (some .int) 2 := ⟨⟨tbm 360 (by decide +kernel) (by decide +kernel), tbm 361 (by decide +kernel) (by decide +kernel)⟩, tbm 42 (by decide +kernel) (by decide +kernel), tbm 362 (by decide +kernel) (by decide +kernel), by decide +kernel⟩
theorem lk_X6_hour : LkV yX6_hour cX6_hour 4 (some .int) 2 := ⟨⟨tbm 377 (by decide +kernel) (by decide +kernel), tbm 378 (by decide +kernel) (by decide +kernel)⟩, tbm 42 (by decide +kernel) (by decide +kernel), tbm 379 (by decide +kernel) (by decide +kernel), by decide +kernel⟩
theorem lk_X6_set : LkV yX6_set cX6_set 4 (some .int) 2 := ⟨⟨tbm 381 (by decide +kernel) (by decide +kernel), tbm 382 (by decide +kernel) (by decide +kernel)⟩, tbm 42 (by decide +kernel) (by decide +kernel), tbm 383 (by decide +kernel) (by decide +kernel), by decide +kernel⟩
theorem lk_X6_sums : LkV yX6_sums cX6_sums 2 (some .int) 1 := ⟨⟨tbm 386 (by decide +kernel) (by decide +kernel), tbm 387 (by decide +kernel) (by decide +kernel)⟩, tbm 42 (by decide +kernel) (by decide +kernel), tbm 388 (by decide +kernel) (by decide +kernel), by decide +kernel⟩
theorem lk_X6_of : LkV yX6_of cX6_of 3 (some .int) 2 := ⟨⟨tbm 463 (by decide +kernel) (by decide +kernel), tbm 464 (by decide +kernel) (by decide +kernel)⟩, tbm 42 (by decide +kernel) (by decide +kernel), tbm 465 (by decide +kernel) (by decide +kernel), by decide +kernel⟩
theorem lk_X6_lamp : LkV yX6_lamp cX6_lamp 3 (some .int) 1 := ⟨⟨tbm 467 (by decide +kernel) (by decide +kernel), tbm 468 (by decide +kernel) (by decide +kernel)⟩, tbm 42 (by decide +kernel) (by decide +kernel), tbm 469 (by decide +kernel) (by decide +kernel), by decide +kernel⟩
theorem lk_X6_best : LkV yX6_best cX6_best 3 (some .int) 2 := ⟨⟨tbm 474 (by decide +kernel) (by decide +kernel), tbm 475 (by decide +kernel) (by decide +kernel)⟩, tbm 42 (by decide +kernel) (by decide +kernel), tbm 476 (by decide +kernel) (by decide +kernel), by decide +kernel⟩
theorem lk_X6_bestPump : LkV yX6_bestPump cX6_bestPump 5 (some .int) 0 := ⟨⟨tbm 496 (by decide +kernel) (by decide +kernel), tbm 497 (by decide +kernel) (by decide +kernel)⟩, tbm 42 (by decide +kernel) (by decide +kernel), tbm 498 (by decide +kernel) (by decide +kernel), by decide +kernel⟩
theorem lk_X6_bestHour : LkV yX6_bestHour cX6_bestHour 6 (some .int) 1 := ⟨⟨tbm 501 (by decide +kernel) (by decide +kernel), tbm 502 (by decide +kernel) (by decide +kernel)⟩, tbm 42 (by decide +kernel) (by decide +kernel), tbm 503 (by decide +kernel) (by decide +kernel), by decide +kernel⟩
theorem lk_X6_without : LkV yX6_without cX6_without 2 (some .int) 1 := ⟨⟨tbm 505 (by decide +kernel) (by decide +kernel), tbm 506 (by decide +kernel) (by decide +kernel)⟩, tbm 42 (by decide +kernel) (by decide +kernel), tbm 507 (by decide +kernel) (by decide +kernel), by decide +kernel⟩
theorem lk_X6_second : LkV yX6_second cX6_second 2 (some .int) 1 := ⟨⟨tbm 518 (by decide +kernel) (by decide +kernel), tbm 519 (by decide +kernel) (by decide +kernel)⟩, tbm 42 (by decide +kernel) (by decide +kernel), tbm 520 (by decide +kernel) (by decide +kernel), by decide +kernel⟩
theorem lk_X6_bestSecond : LkV yX6_bestSecond cX6_bestSecond 5 (some .int) 0 := ⟨⟨tbm 525 (by decide +kernel) (by decide +kernel), tbm 526 (by decide +kernel) (by decide +kernel)⟩, tbm 42 (by decide +kernel) (by decide +kernel), tbm 527 (by decide +kernel) (by decide +kernel), by decide +kernel⟩
theorem lk_X6_net : LkV yX6_net cX6_net 2 (some .int) 1 := ⟨⟨tbm 529 (by decide +kernel) (by decide +kernel), tbm 530 (by decide +kernel) (by decide +kernel)⟩, tbm 42 (by decide +kernel) (by decide +kernel), tbm 531 (by decide +kernel) (by decide +kernel), by decide +kernel⟩
theorem lk_X6_payments : LkV yX6_payments cX6_payments 1 (some .int) 0 := ⟨⟨tbm 545 (by decide +kernel) (by decide +kernel), tbm 546 (by decide +kernel) (by decide +kernel)⟩, tbm 42 (by decide +kernel) (by decide +kernel), tbm 547 (by decide +kernel) (by decide +kernel), by decide +kernel⟩
theorem lk_X6_near : LkV yX6_near cX6_near 4 (some .int) 2 := ⟨⟨tbm 557 (by decide +kernel) (by decide +kernel), tbm 558 (by decide +kernel) (by decide +kernel)⟩, tbm 42 (by decide +kernel) (by decide +kernel), tbm 559 (by decide +kernel) (by decide +kernel), by decide +kernel⟩
theorem lk_X6_midwife : LkV yX6_midwife cX6_midwife 6 (some .int) 1 := ⟨⟨tbm 562 (by decide +kernel) (by decide +kernel), tbm 563 (by decide +kernel) (by decide +kernel)⟩, tbm 42 (by decide +kernel) (by decide +kernel), tbm 564 (by decide +kernel) (by decide +kernel), by decide +kernel⟩
theorem lk_X6_watch : LkV yX6_watch cX6_watch 3 (some .int) 0 := ⟨⟨tbm 566 (by decide +kernel) (by decide +kernel), tbm 567 (by decide +kernel) (by decide +kernel)⟩, tbm 42 (by decide +kernel) (by decide +kernel), tbm 568 (by decide +kernel) (by decide +kernel), by decide +kernel⟩
theorem lk_X6_whoHad : LkV yX6_whoHad cX6_whoHad 3 (some .int) 2 := ⟨⟨tbm 574 (by decide +kernel) (by decide +kernel), tbm 575 (by decide +kernel) (by decide +kernel)⟩, tbm 42 (by decide +kernel) (by decide +kernel), tbm 576 (by decide +kernel) (by decide +kernel), by decide +kernel⟩
theorem lk_X6_leastOil : LkV yX6_leastOil cX6_leastOil 3 (some .int) 0 := ⟨⟨tbm 586 (by decide +kernel) (by decide +kernel), tbm 587 (by decide +kernel) (by decide +kernel)⟩, tbm 42 (by decide +kernel) (by decide +kernel), tbm 588 (by decide +kernel) (by decide +kernel), by decide +kernel⟩
theorem lk_X6_row : LkV yX6_row cX6_row 2 (some .int) 1 := ⟨⟨tbm 590 (by decide +kernel) (by decide +kernel), tbm 591 (by decide +kernel) (by decide +kernel)⟩, tbm 42 (by decide +kernel) (by decide +kernel), tbm 592 (by decide +kernel) (by decide +kernel), by decide +kernel⟩
theorem lk_X6_judge : LkV yX6_judge cX6_judge 2 (some .int) 0 := ⟨⟨tbm 594 (by decide +kernel) (by decide +kernel), tbm 595 (by decide +kernel) (by decide +kernel)⟩, tbm 42 (by decide +kernel) (by decide +kernel), tbm 596 (by decide +kernel) (by decide +kernel), by decide +kernel⟩
theorem lk_X6_clear : LkV yX6_clear cX6_clear 2 (some .int) 0 := ⟨⟨tbm 598 (by decide +kernel) (by decide +kernel), tbm 599 (by decide +kernel) (by decide +kernel)⟩, tbm 42 (by decide +kernel) (by decide +kernel), tbm 600 (by decide +kernel) (by decide +kernel), by decide +kernel⟩
theorem lk_X6_lots : LkV yX6_lots cX6_lots 8 (some .int) 3 := ⟨⟨tbm 602 (by decide +kernel) (by decide +kernel), tbm 603 (by decide +kernel) (by decide +kernel)⟩, tbm 42 (by decide +kernel) (by decide +kernel), tbm 604 (by decide +kernel) (by decide +kernel), by decide +kernel⟩
theorem lk_X6_image : LkV yX6_image cX6_image 1 (some .int) 0 := ⟨⟨tbm 614 (by decide +kernel) (by decide +kernel), tbm 615 (by decide +kernel) (by decide +kernel)⟩, tbm 42 (by decide +kernel) (by decide +kernel), tbm 616 (by decide +kernel) (by decide +kernel), by decide +kernel⟩
theorem lk_X6_on : LkV yX6_on cX6_on 1 (some .int) 0 := ⟨⟨tbm 618 (by decide +kernel) (by decide +kernel), tbm 619 (by decide +kernel) (by decide +kernel)⟩, tbm 42 (by decide +kernel) (by decide +kernel), tbm 620 (by decide +kernel) (by decide +kernel), by decide +kernel⟩
theorem lk_X6_count : LkV yX6_count cX6_count 2 (some .int) 1 := ⟨⟨tbm 622 (by decide +kernel) (by decide +kernel), tbm 623 (by decide +kernel) (by decide +kernel)⟩, tbm 42 (by decide +kernel) (by decide +kernel), tbm 624 (by decide +kernel) (by decide +kernel), by decide +kernel⟩
theorem lk_X6_refuse : LkV yX6_refuse cX6_refuse 2 (some .int) 1 := ⟨⟨tbm 280 (by decide +kernel) (by decide +kernel), tbm 0 (by decide +kernel) (by decide +kernel)⟩, tbm 42 (by decide +kernel) (by decide +kernel), tbm 281 (by decide +kernel) (by decide +kernel), by decide +kernel⟩
theorem lk_X6_refuseAmongAll : LkV yX6_refuseAmongAll cX6_refuseAmongAll 2 (some .int) 1 := ⟨⟨tbm 510 (by decide +kernel) (by decide +kernel), tbm 11 (by decide +kernel) (by decide +kernel)⟩, tbm 42 (by decide +kernel) (by decide +kernel), tbm 511 (by decide +kernel) (by decide +kernel), by decide +kernel⟩
theorem lk_X6_hourRefusal : LkS yX6_hourRefusal cX6_hourRefusal 1 (some .int) 1 := ⟨tbm 471 (by decide +kernel) (by decide +kernel), tbm 42 (by decide +kernel) (by decide +kernel), tbm 472 (by decide +kernel) (by decide +kernel), by decide +kernel⟩
theorem lk_X6_isCell : LkS yX6_isCell cX6_isCell 1 (some .boolean) 1 := ⟨tbm 522 (by decide +kernel) (by decide +kernel), tbm 42 (by decide +kernel) (by decide +kernel), tbm 523 (by decide +kernel) (by decide +kernel), by decide +kernel⟩
theorem lk_X6_valuesThatFitTheRow : LkV yX6_valuesThatFitTheRow cX6_valuesThatFitTheRow 6 (some .int) 3 := ⟨⟨tbm 579 (by decide +kernel) (by decide +kernel), tbm 13 (by decide +kernel) (by decide +kernel)⟩, tbm 42 (by decide +kernel) (by decide +kernel), tbm 580 (by decide +kernel) (by decide +kernel), by decide +kernel⟩
theorem lk_X6_firstNotSo : LkV yX6_firstNotSo cX6_firstNotSo 2 (some .int) 0 := ⟨⟨tbm 583 (by decide +kernel) (by decide +kernel), tbm 14 (by decide +kernel) (by decide +kernel)⟩, tbm 42 (by decide +kernel) (by decide +kernel), tbm 584 (by decide +kernel) (by decide +kernel), by decide +kernel⟩
theorem lk_X7_no : LkV yX7_no cX7_no 2 (some .int) 1 := ⟨⟨tbm 738 (by decide +kernel) (by decide +kernel), tbm 15 (by decide +kernel) (by decide +kernel)⟩, tbm 49 (by decide +kernel) (by decide +kernel), tbm 739 (by decide +kernel) (by decide +kernel), by decide +kernel⟩
theorem lk_X7_noMuch : LkV yX7_noMuch cX7_noMuch 2 (some .int) 1 := ⟨⟨tbm 968 (by decide +kernel) (by decide +kernel), tbm 37 (by decide +kernel) (by decide +kernel)⟩, tbm 49 (by decide +kernel) (by decide +kernel), tbm 969 (by decide +kernel) (by decide +kernel), by decide +kernel⟩
theorem lk_X7_within : LkS yX7_within cX7_within 3 (some .boolean) 3 := ⟨tbm 847 (by decide +kernel) (by decide +kernel), tbm 49 (by decide +kernel) (by decide +kernel), tbm 848 (by decide +kernel) (by decide +kernel), by decide +kernel⟩
theorem lk_X7_isGoer : LkV yX7_isGoer cX7_isGoer 2 (some .boolean) 1 := ⟨⟨tbm 854 (by decide +kernel) (by decide +kernel), tbm 20 (by decide +kernel) (by decide +kernel)⟩, tbm 49 (by decide +kernel) (by decide +kernel), tbm 855 (by decide +kernel) (by decide +kernel), by decide +kernel⟩
theorem lk_X7_isCell : LkS yX7_isCell cX7_isCell 1 (some .boolean) 1 := ⟨tbm 844 (by decide +kernel) (by decide +kernel), tbm 49 (by decide +kernel) (by decide +kernel), tbm 845 (by decide +kernel) (by decide +kernel), by decide +kernel⟩
theorem lk_X7_isHour : LkS yX7_isHour cX7_isHour 1 (some .boolean) 1 := ⟨tbm 850 (by decide +kernel) (by decide +kernel), tbm 49 (by decide +kernel) (by decide +kernel), tbm 851 (by decide +kernel) (by decide +kernel), by decide +kernel⟩
theorem lk_X7_mostOf : LkS yX7_mostOf cX7_mostOf 1 (some .int) 1 := ⟨tbm 886 (by decide +kernel) (by decide +kernel), tbm 49 (by decide +kernel) (by decide +kernel), tbm 887 (by decide +kernel) (by decide +kernel), by decide +kernel⟩
theorem lk_X7_letter : LkV yX7_letter cX7_letter 2 (some .int) 1 := ⟨⟨tbm 733 (by decide +kernel) (by decide +kernel), tbm 734 (by decide +kernel) (by decide +kernel)⟩, tbm 49 (by decide +kernel) (by decide +kernel), tbm 735 (by decide +kernel) (by decide +kernel), by decide +kernel⟩
theorem lk_X7_is : LkV yX7_is cX7_is 2 (some .boolean) 1 := ⟨⟨tbm 750 (by decide +kernel) (by decide +kernel), tbm 17 (by decide +kernel) (by decide +kernel)⟩, tbm 49 (by decide +kernel) (by decide +kernel), tbm 751 (by decide +kernel) (by decide +kernel), by decide +kernel⟩
theorem lk_X7_digits : LkV yX7_digits cX7_digits 3 (some .boolean) 1 := ⟨⟨tbm 837 (by decide +kernel) (by decide +kernel), tbm 18 (by decide +kernel) (by decide +kernel)⟩, tbm 49 (by decide +kernel) (by decide +kernel), tbm 838 (by decide +kernel) (by decide +kernel), by decide +kernel⟩
theorem lk_X7_two : LkV yX7_two cX7_two 2 (some .int) 1 := ⟨⟨tbm 841 (by decide +kernel) (by decide +kernel), tbm 19 (by decide +kernel) (by decide +kernel)⟩, tbm 49 (by decide +kernel) (by decide +kernel), tbm 842 (by decide +kernel) (by decide +kernel), by decide +kernel⟩
theorem lk_X7_statement : LkV yX7_statement cX7_statement 3 (some .int) 1 := ⟨⟨tbm 746 (by decide +kernel) (by decide +kernel), tbm 16 (by decide +kernel) (by decide +kernel)⟩, tbm 49 (by decide +kernel) (by decide +kernel), tbm 747 (by decide +kernel) (by decide +kernel), by decide +kernel⟩
theorem lk_X7_night : LkV yX7_night cX7_night 4 (some .int) 0 := ⟨⟨tbm 741 (by decide +kernel) (by decide +kernel), tbm 742 (by decide +kernel) (by decide +kernel)⟩, tbm 49 (by decide +kernel) (by decide +kernel), tbm 743 (by decide +kernel) (by decide +kernel), by decide +kernel⟩
theorem lk_X7_fetches : LkV yX7_fetches cX7_fetches 2 (some .int) 1 := ⟨⟨tbm 871 (by decide +kernel) (by decide +kernel), tbm 23 (by decide +kernel) (by decide +kernel)⟩, tbm 49 (by decide +kernel) (by decide +kernel), tbm 872 (by decide +kernel) (by decide +kernel), by decide +kernel⟩
theorem lk_X7_costs : LkV yX7_costs cX7_costs 2 (some .int) 1 := ⟨⟨tbm 875 (by decide +kernel) (by decide +kernel), tbm 24 (by decide +kernel) (by decide +kernel)⟩, tbm 49 (by decide +kernel) (by decide +kernel), tbm 876 (by decide +kernel) (by decide +kernel), by decide +kernel⟩
theorem lk_X7_goer : LkV yX7_goer cX7_goer 3 (some .int) 2 := ⟨⟨tbm 866 (by decide +kernel) (by decide +kernel), tbm 867 (by decide +kernel) (by decide +kernel)⟩, tbm 49 (by decide +kernel) (by decide +kernel), tbm 868 (by decide +kernel) (by decide +kernel), by decide +kernel⟩
theorem lk_X7_hour : LkV yX7_hour cX7_hour 4 (some .int) 2 := ⟨⟨tbm 878 (by decide +kernel) (by decide +kernel), tbm 879 (by decide +kernel) (by decide +kernel)⟩, tbm 49 (by decide +kernel) (by decide +kernel), tbm 880 (by decide +kernel) (by decide +kernel), by decide +kernel⟩
theorem lk_X7_set : LkV yX7_set cX7_set 4 (some .int) 2 := ⟨⟨tbm 882 (by decide +kernel) (by decide +kernel), tbm 883 (by decide +kernel) (by decide +kernel)⟩, tbm 49 (by decide +kernel) (by decide +kernel), tbm 884 (by decide +kernel) (by decide +kernel), by decide +kernel⟩
theorem lk_X7_walksDark : LkV yX7_walksDark cX7_walksDark 4 none 3 := ⟨⟨tbm 915 (by decide +kernel) (by decide +kernel), tbm 30 (by decide +kernel) (by decide +kernel)⟩, tbm 49 (by decide +kernel) (by decide +kernel), tbm 916 (by decide +kernel) (by decide +kernel), by decide +kernel⟩
theorem lk_X7_carries : LkV yX7_carries cX7_carries 6 none 3 := ⟨⟨tbm 923 (by decide +kernel) (by decide +kernel), tbm 32 (by decide +kernel) (by decide +kernel)⟩, tbm 49 (by decide +kernel) (by decide +kernel), tbm 924 (by decide +kernel) (by decide +kernel), by decide +kernel⟩
theorem lk_X7_carriedTo : LkV yX7_carriedTo cX7_carriedTo 4 (some .int) 2 := ⟨⟨tbm 919 (by decide +kernel) (by decide +kernel), tbm 31 (by decide +kernel) (by decide +kernel)⟩, tbm 49 (by decide +kernel) (by decide +kernel), tbm 920 (by decide +kernel) (by decide +kernel), by decide +kernel⟩
theorem lk_X7_nearer : LkV yX7_nearer cX7_nearer 4 (some .int) 1 := ⟨⟨tbm 910 (by decide +kernel) (by decide +kernel), tbm 29 (by decide +kernel) (by decide +kernel)⟩, tbm 49 (by decide +kernel) (by decide +kernel), tbm 911 (by decide +kernel) (by decide +kernel), by decide +kernel⟩
theorem lk_X7_goes : LkV yX7_goes cX7_goes 3 none 1 := ⟨⟨tbm 906 (by decide +kernel) (by decide +kernel), tbm 28 (by decide +kernel) (by decide +kernel)⟩, tbm 49 (by decide +kernel) (by decide +kernel), tbm 907 (by decide +kernel) (by decide +kernel), by decide +kernel⟩
theorem lk_X7_sets : LkV yX7_sets cX7_sets 2 none 1 := ⟨⟨tbm 902 (by decide +kernel) (by decide +kernel), tbm 27 (by decide +kernel) (by decide +kernel)⟩, tbm 49 (by decide +kernel) (by decide +kernel), tbm 903 (by decide +kernel) (by decide +kernel), by decide +kernel⟩
theorem lk_X7_run : LkV yX7_run cX7_run 5 none 2 := ⟨⟨tbm 898 (by decide +kernel) (by decide +kernel), tbm 26 (by decide +kernel) (by decide +kernel)⟩, tbm 49 (by decide +kernel) (by decide +kernel), tbm 899 (by decide +kernel) (by decide +kernel), by decide +kernel⟩
theorem lk_X7_run_ : LkV yX7_run_ cX7_run_ 1 none 0 := ⟨⟨tbm 894 (by decide +kernel) (by decide +kernel), tbm 25 (by decide +kernel) (by decide +kernel)⟩, tbm 49 (by decide +kernel) (by decide +kernel), tbm 895 (by decide +kernel) (by decide +kernel), by decide +kernel⟩
theorem lk_X7_cost : LkV yX7_cost cX7_cost 3 (some .int) 0 := ⟨⟨tbm 928 (by decide +kernel) (by decide +kernel), tbm 33 (by decide +kernel) (by decide +kernel)⟩, tbm 49 (by decide +kernel) (by decide +kernel), tbm 929 (by decide +kernel) (by decide +kernel), by decide +kernel⟩
theorem lk_X7_costNow : LkV yX7_costNow cX7_costNow 1 (some .int) 0 := ⟨⟨tbm 956 (by decide +kernel) (by decide +kernel), tbm 36 (by decide +kernel) (by decide +kernel)⟩, tbm 49 (by decide +kernel) (by decide +kernel), tbm 957 (by decide +kernel) (by decide +kernel), by decide +kernel⟩
theorem lk_X7_sums : LkV yX7_sums cX7_sums 4 (some .int) 1 := ⟨⟨tbm 889 (by decide +kernel) (by decide +kernel), tbm 890 (by decide +kernel) (by decide +kernel)⟩, tbm 49 (by decide +kernel) (by decide +kernel), tbm 891 (by decide +kernel) (by decide +kernel), by decide +kernel⟩
theorem lk_X7_of : LkV yX7_of cX7_of 3 (some .int) 2 := ⟨⟨tbm 931 (by decide +kernel) (by decide +kernel), tbm 932 (by decide +kernel) (by decide +kernel)⟩, tbm 49 (by decide +kernel) (by decide +kernel), tbm 933 (by decide +kernel) (by decide +kernel), by decide +kernel⟩
theorem lk_X7_lamp : LkV yX7_lamp cX7_lamp 2 (some .int) 1 := ⟨⟨tbm 935 (by decide +kernel) (by decide +kernel), tbm 936 (by decide +kernel) (by decide +kernel)⟩, tbm 49 (by decide +kernel) (by decide +kernel), tbm 937 (by decide +kernel) (by decide +kernel), by decide +kernel⟩
theorem lk_X7_nextOrder : LkV yX7_nextOrder cX7_nextOrder 5 (some .boolean) 0 := ⟨⟨tbm 944 (by decide +kernel) (by decide +kernel), tbm 34 (by decide +kernel) (by decide +kernel)⟩, tbm 49 (by decide +kernel) (by decide +kernel), tbm 945 (by decide +kernel) (by decide +kernel), by decide +kernel⟩
theorem lk_X7_swap : LkV yX7_swap cX7_swap 4 none 2 := ⟨⟨tbm 948 (by decide +kernel) (by decide +kernel), tbm 35 (by decide +kernel) (by decide +kernel)⟩, tbm 49 (by decide +kernel) (by decide +kernel), tbm 949 (by decide +kernel) (by decide +kernel), by decide +kernel⟩
theorem lk_X7_best : LkV yX7_best cX7_best 7 (some .int) 2 := ⟨⟨tbm 939 (by decide +kernel) (by decide +kernel), tbm 940 (by decide +kernel) (by decide +kernel)⟩, tbm 49 (by decide +kernel) (by decide +kernel), tbm 941 (by decide +kernel) (by decide +kernel), by decide +kernel⟩
theorem lk_X7_bestPump : LkV yX7_bestPump cX7_bestPump 6 (some .int) 0 := ⟨⟨tbm 951 (by decide +kernel) (by decide +kernel), tbm 952 (by decide +kernel) (by decide +kernel)⟩, tbm 49 (by decide +kernel) (by decide +kernel), tbm 953 (by decide +kernel) (by decide +kernel), by decide +kernel⟩
theorem lk_X7_bestHour : LkV yX7_bestHour cX7_bestHour 7 (some .int) 1 := ⟨⟨tbm 959 (by decide +kernel) (by decide +kernel), tbm 960 (by decide +kernel) (by decide +kernel)⟩, tbm 49 (by decide +kernel) (by decide +kernel), tbm 961 (by decide +kernel) (by decide +kernel), by decide +kernel⟩
theorem lk_X7_without : LkV yX7_without cX7_without 3 (some .int) 1 := ⟨⟨tbm 963 (by decide +kernel) (by decide +kernel), tbm 964 (by decide +kernel) (by decide +kernel)⟩, tbm 49 (by decide +kernel) (by decide +kernel), tbm 965 (by decide +kernel) (by decide +kernel), by decide +kernel⟩
theorem lk_X7_secondAt : LkV yX7_secondAt cX7_secondAt 3 (some .int) 1 := ⟨⟨tbm 977 (by decide +kernel) (by decide +kernel), tbm 38 (by decide +kernel) (by decide +kernel)⟩, tbm 49 (by decide +kernel) (by decide +kernel), tbm 978 (by decide +kernel) (by decide +kernel), by decide +kernel⟩
theorem lk_X7_second : LkV yX7_second cX7_second 2 (some .int) 1 := ⟨⟨tbm 972 (by decide +kernel) (by decide +kernel), tbm 973 (by decide +kernel) (by decide +kernel)⟩, tbm 49 (by decide +kernel) (by decide +kernel), tbm 974 (by decide +kernel) (by decide +kernel), by decide +kernel⟩
theorem lk_X7_bestSecond : LkV yX7_bestSecond cX7_bestSecond 3 (some .int) 0 := ⟨⟨tbm 980 (by decide +kernel) (by decide +kernel), tbm 981 (by decide +kernel) (by decide +kernel)⟩, tbm 49 (by decide +kernel) (by decide +kernel), tbm 982 (by decide +kernel) (by decide +kernel), by decide +kernel⟩
theorem lk_X7_owe : LkV yX7_owe cX7_owe 5 none 0 := ⟨⟨tbm 989 (by decide +kernel) (by decide +kernel), tbm 39 (by decide +kernel) (by decide +kernel)⟩, tbm 49 (by decide +kernel) (by decide +kernel), tbm 990 (by decide +kernel) (by decide +kernel), by decide +kernel⟩
theorem lk_X7_net : LkV yX7_net cX7_net 2 (some .int) 1 := ⟨⟨tbm 984 (by decide +kernel) (by decide +kernel), tbm 985 (by decide +kernel) (by decide +kernel)⟩, tbm 49 (by decide +kernel) (by decide +kernel), tbm 986 (by decide +kernel) (by decide +kernel), by decide +kernel⟩
theorem lk_X7_payments : LkV yX7_payments cX7_payments 6 (some .int) 0 := ⟨⟨tbm 993 (by decide +kernel) (by decide +kernel), tbm 994 (by decide +kernel) (by decide +kernel)⟩, tbm 49 (by decide +kernel) (by decide +kernel), tbm 995 (by decide +kernel) (by decide +kernel), by decide +kernel⟩
theorem lk_X7_near : LkV yX7_near cX7_near 3 (some .int) 2 := ⟨⟨tbm 997 (by decide +kernel) (by decide +kernel), tbm 998 (by decide +kernel) (by decide +kernel)⟩, tbm 49 (by decide +kernel) (by decide +kernel), tbm 999 (by decide +kernel) (by decide +kernel), by decide +kernel⟩
theorem lk_X7_midwife : LkV yX7_midwife cX7_midwife 4 (some .int) 1 := ⟨⟨tbm 1001 (by decide +kernel) (by decide +kernel), tbm 1002 (by decide +kernel) (by decide +kernel)⟩, tbm 49 (by decide +kernel) (by decide +kernel), tbm 1003 (by decide +kernel) (by decide +kernel), by decide +kernel⟩
theorem lk_X7_watch : LkV yX7_watch cX7_watch 5 (some .int) 0 := ⟨⟨tbm 1005 (by decide +kernel) (by decide +kernel), tbm 1006 (by decide +kernel) (by decide +kernel)⟩, tbm 49 (by decide +kernel) (by decide +kernel), tbm 1007 (by decide +kernel) (by decide +kernel), by decide +kernel⟩
theorem lk_X7_wrong : LkV yX7_wrong cX7_wrong 2 (some .int) 0 := ⟨⟨tbm 1014 (by decide +kernel) (by decide +kernel), tbm 40 (by decide +kernel) (by decide +kernel)⟩, tbm 49 (by decide +kernel) (by decide +kernel), tbm 1015 (by decide +kernel) (by decide +kernel), by decide +kernel⟩
theorem lk_X7_whoHad : LkV yX7_whoHad cX7_whoHad 7 (some .int) 2 := ⟨⟨tbm 1009 (by decide +kernel) (by decide +kernel), tbm 1010 (by decide +kernel) (by decide +kernel)⟩, tbm 49 (by decide +kernel) (by decide +kernel), tbm 1011 (by decide +kernel) (by decide +kernel), by decide +kernel⟩
theorem lk_X7_leastOil : LkV yX7_leastOil cX7_leastOil 5 (some .int) 0 := ⟨⟨tbm 1017 (by decide +kernel) (by decide +kernel), tbm 1018 (by decide +kernel) (by decide +kernel)⟩, tbm 49 (by decide +kernel) (by decide +kernel), tbm 1019 (by decide +kernel) (by decide +kernel), by decide +kernel⟩
theorem lk_X7_row : LkV yX7_row cX7_row 2 (some .int) 1 := ⟨⟨tbm 1021 (by decide +kernel) (by decide +kernel), tbm 1022 (by decide +kernel) (by decide +kernel)⟩, tbm 49 (by decide +kernel) (by decide +kernel), tbm 1023 (by decide +kernel) (by decide +kernel), by decide +kernel⟩
theorem lk_X7_judge : LkV yX7_judge cX7_judge 2 (some .int) 0 := ⟨⟨tbm 1025 (by decide +kernel) (by decide +kernel), tbm 1026 (by decide +kernel) (by decide +kernel)⟩, tbm 49 (by decide +kernel) (by decide +kernel), tbm 1027 (by decide +kernel) (by decide +kernel), by decide +kernel⟩
theorem lk_X7_clear : LkV yX7_clear cX7_clear 2 (some .int) 0 := ⟨⟨tbm 1029 (by decide +kernel) (by decide +kernel), tbm 1030 (by decide +kernel) (by decide +kernel)⟩, tbm 49 (by decide +kernel) (by decide +kernel), tbm 1031 (by decide +kernel) (by decide +kernel), by decide +kernel⟩
theorem lk_X7_lots : LkV yX7_lots cX7_lots 9 (some .int) 3 := ⟨⟨tbm 1033 (by decide +kernel) (by decide +kernel), tbm 1034 (by decide +kernel) (by decide +kernel)⟩, tbm 49 (by decide +kernel) (by decide +kernel), tbm 1035 (by decide +kernel) (by decide +kernel), by decide +kernel⟩
theorem lk_X7_keep : LkV yX7_keep cX7_keep 3 none 1 := ⟨⟨tbm 858 (by decide +kernel) (by decide +kernel), tbm 21 (by decide +kernel) (by decide +kernel)⟩, tbm 49 (by decide +kernel) (by decide +kernel), tbm 859 (by decide +kernel) (by decide +kernel), by decide +kernel⟩
theorem lk_X7_again : LkV yX7_again cX7_again 3 none 1 := ⟨⟨tbm 862 (by decide +kernel) (by decide +kernel), tbm 22 (by decide +kernel) (by decide +kernel)⟩, tbm 49 (by decide +kernel) (by decide +kernel), tbm 863 (by decide +kernel) (by decide +kernel), by decide +kernel⟩
theorem lk_X7_image : LkV yX7_image cX7_image 1 (some .int) 0 := ⟨⟨tbm 1040 (by decide +kernel) (by decide +kernel), tbm 1041 (by decide +kernel) (by decide +kernel)⟩, tbm 49 (by decide +kernel) (by decide +kernel), tbm 1042 (by decide +kernel) (by decide +kernel), by decide +kernel⟩
theorem lk_X7_on : LkV yX7_on cX7_on 1 (some .int) 0 := ⟨⟨tbm 1044 (by decide +kernel) (by decide +kernel), tbm 1045 (by decide +kernel) (by decide +kernel)⟩, tbm 49 (by decide +kernel) (by decide +kernel), tbm 1046 (by decide +kernel) (by decide +kernel), by decide +kernel⟩
theorem lk_X7_count : LkV yX7_count cX7_count 4 (some .int) 1 := ⟨⟨tbm 1048 (by decide +kernel) (by decide +kernel), tbm 1049 (by decide +kernel) (by decide +kernel)⟩, tbm 49 (by decide +kernel) (by decide +kernel), tbm 1050 (by decide +kernel) (by decide +kernel), by decide +kernel⟩
section WROWS
variable {p : Program} {l : Launch} {e : Env} {R : Room} {s : State} {m : MethodId} {args : Array Value} {below : List Frame} {meth : Method} {c : Code} {Q : State → Prop} {cc : ByteArray} {nL : Nat} {own : String} {D : va_G} {cI : ClassId} {q : Nat → Nat} {A : Nat → Prop} {E : Et} {g : Sg} {pc a : Nat} {lo : List (Nat × Value)} {st : List Value}
theorem gf_X6_0_0 (C : JC p s m args c cc nL own D cI A E) {idx : Nat} (hl : Cond.fieldLink own idx "LightAsFarAsThePump" "alley" "LLightAsFarAsThePump$Alley;" ∈ TB) (hdg : decode cc pc = .ok (.getfield idx, 3)) (kk : J p l e R s m args below meth c D (cW q cI) A nL Q g (pc + 3) lo (.ref (q 3) :: st)) : J p l e R s m args below meth c D (cW q cI) A nL Q g pc lo (.ref (q 0) :: st) := J.get C 0 rfl rfl in_X6 0 (by decide) hl rfl hdg kk
theorem gf_X6_0_1 (C : JC p s m args c cc nL own D cI A E) {idx : Nat} (hl : Cond.fieldLink own idx "LightAsFarAsThePump" "image" "LLightAsFarAsThePump$Alley;" ∈ TB) (hdg : decode cc pc = .ok (.getfield idx, 3)) (kk : J p l e R s m args below meth c D (cW q cI) A nL Q g (pc + 3) lo (.ref (q 10) :: st)) : J p l e R s m args below meth c D (cW q cI) A nL Q g pc lo (.ref (q 0) :: st) := J.get C 0 rfl rfl in_X6 1 (by decide) hl rfl hdg kk
theorem gf_X6_0_2 (C : JC p s m args c cc nL own D cI A E) {idx : Nat} (hl : Cond.fieldLink own idx "LightAsFarAsThePump" "trial" "LLightAsFarAsThePump$Alley;" ∈ TB) (hdg : decode cc pc = .ok (.getfield idx, 3)) (kk : J p l e R s m args below meth c D (cW q cI) A nL Q g (pc + 3) lo (.ref (q 17) :: st)) : J p l e R s m args below meth c D (cW q cI) A nL Q g pc lo (.ref (q 0) :: st) := J.get C 0 rfl rfl in_X6 2 (by decide) hl rfl hdg kk
theorem gf_X6_0_3 (C : JC p s m args c cc nL own D cI A E) {idx : Nat} (hl : Cond.fieldLink own idx "LightAsFarAsThePump" "letters" "LLightAsFarAsThePump$Letters;" ∈ TB) (hdg : decode cc pc = .ok (.getfield idx, 3)) (kk : J p l e R s m args below meth c D (cW q cI) A nL Q g (pc + 3) lo (.ref (q 24) :: st)) : J p l e R s m args below meth c D (cW q cI) A nL Q g pc lo (.ref (q 0) :: st) := J.get C 0 rfl rfl in_X6 3 (by decide) hl rfl hdg kk
theorem gf_X6_0_4 (C : JC p s m args c cc nL own D cI A E) {idx : Nat} (hl : Cond.fieldLink own idx "LightAsFarAsThePump" "walk" "LLightAsFarAsThePump$Walk;" ∈ TB) (hdg : decode cc pc = .ok (.getfield idx, 3)) (kk : J p l e R s m args below meth c D (cW q cI) A nL Q g (pc + 3) lo (.ref (q 26) :: st)) : J p l e R s m args below meth c D (cW q cI) A nL Q g pc lo (.ref (q 0) :: st) := J.get C 0 rfl rfl in_X6 4 (by decide) hl rfl hdg kk
theorem gf_X6_0_5 (C : JC p s m args c cc nL own D cI A E) {idx : Nat} (hl : Cond.fieldLink own idx "LightAsFarAsThePump" "orders" "LLightAsFarAsThePump$Orders;" ∈ TB) (hdg : decode cc pc = .ok (.getfield idx, 3)) (kk : J p l e R s m args below meth c D (cW q cI) A nL Q g (pc + 3) lo (.ref (q 37) :: st)) : J p l e R s m args below meth c D (cW q cI) A nL Q g pc lo (.ref (q 0) :: st) := J.get C 0 rfl rfl in_X6 5 (by decide) hl rfl hdg kk
theorem gf_X6_0_6 (C : JC p s m args c cc nL own D cI A E) {idx : Nat} (hl : Cond.fieldLink own idx "LightAsFarAsThePump" "debts" "LLightAsFarAsThePump$Debts;" ∈ TB) (hdg : decode cc pc = .ok (.getfield idx, 3)) (kk : J p l e R s m args below meth c D (cW q cI) A nL Q g (pc + 3) lo (.ref (q 40) :: st)) : J p l e R s m args below meth c D (cW q cI) A nL Q g pc lo (.ref (q 0) :: st) := J.get C 0 rfl rfl in_X6 6 (by decide) hl rfl hdg kk
theorem gf_X6_0_7 (C : JC p s m args c cc nL own D cI A E) {idx : Nat} (hl : Cond.fieldLink own idx "LightAsFarAsThePump" "row" "[I" ∈ TB) (hdg : decode cc pc = .ok (.getfield idx, 3)) (kk : J p l e R s m args below meth c D (cW q cI) A nL Q g (pc + 3) lo (.ref (q 1) :: st)) : J p l e R s m args below meth c D (cW q cI) A nL Q g pc lo (.ref (q 0) :: st) := J.get C 0 rfl rfl in_X6 7 (by decide) hl rfl hdg kk
theorem gf_X6_0_8 (C : JC p s m args c cc nL own D cI A E) {idx : Nat} (hl : Cond.fieldLink own idx "LightAsFarAsThePump" "inRow" "I" ∈ TB) (hdg : decode cc pc = .ok (.getfield idx, 3)) (kk : J p l e R s m args below meth c D (cW q cI) A nL Q g (pc + 3) lo (.int (g.1 0) :: st)) : J p l e R s m args below meth c D (cW q cI) A nL Q g pc lo (.ref (q 0) :: st) := J.get C 0 rfl rfl in_X6 8 (by decide) hl rfl hdg kk
theorem pf_X6_0_8 (C : JC p s m args c cc nL own D cI A E) {idx : Nat} {v : Int32} (hl : Cond.fieldLink own idx "LightAsFarAsThePump" "inRow" "I" ∈ TB) (hdg : decode cc pc = .ok (.putfield idx, 3)) (kk : J p l e R s m args below meth c D (cW q cI) A nL Q (sI g 0 v) (pc + 3) lo st) : J p l e R s m args below meth c D (cW q cI) A nL Q g pc lo (.int v :: .ref (q 0) :: st) := J.put C 0 rfl rfl in_X6 tyX6 tyX6_ok nmX6 8 (by decide) hl rfl (ty := .int) (by decide +kernel) rfl rfl (Nat.le_of_ble_eq_true rfl) rfl hdg kk
theorem gf_X6_0_9 (C : JC p s m args c cc nL own D cI A E) {idx : Nat} (hl : Cond.fieldLink own idx "LightAsFarAsThePump" "refusals" "[I" ∈ TB) (hdg : decode cc pc = .ok (.getfield idx, 3)) (kk : J p l e R s m args below meth c D (cW q cI) A nL Q g (pc + 3) lo (.ref (q 2) :: st)) : J p l e R s m args below meth c D (cW q cI) A nL Q g pc lo (.ref (q 0) :: st) := J.get C 0 rfl rfl in_X6 9 (by decide) hl rfl hdg kk
theorem gf_X6_0_10 (C : JC p s m args c cc nL own D cI A E) {idx : Nat} (hl : Cond.fieldLink own idx "LightAsFarAsThePump" "imageTaken" "Z" ∈ TB) (hdg : decode cc pc = .ok (.getfield idx, 3)) (kk : J p l e R s m args below meth c D (cW q cI) A nL Q g (pc + 3) lo (.int (g.1 1) :: st)) : J p l e R s m args below meth c D (cW q cI) A nL Q g pc lo (.ref (q 0) :: st) := J.get C 0 rfl rfl in_X6 10 (by decide) hl rfl hdg kk
theorem pf_X6_0_10 (C : JC p s m args c cc nL own D cI A E) {idx : Nat} {v : Int32} (hz : narrow .boolean (.int v) = .int v) (hzf : fits .boolean (.int v) = true) (hl : Cond.fieldLink own idx "LightAsFarAsThePump" "imageTaken" "Z" ∈ TB) (hdg : decode cc pc = .ok (.putfield idx, 3)) (kk : J p l e R s m args below meth c D (cW q cI) A nL Q (sI g 1 v) (pc + 3) lo st) : J p l e R s m args below meth c D (cW q cI) A nL Q g pc lo (.int v :: .ref (q 0) :: st) := J.put C 0 rfl rfl in_X6 tyX6 tyX6_ok nmX6 10 (by decide) hl rfl (ty := .boolean) (by decide +kernel) hz hzf (Nat.le_of_ble_eq_true rfl) rfl hdg kk
theorem gf_X2_24_0 (C : JC p s m args c cc nL own D cI A E) {idx : Nat} (hl : Cond.fieldLink own idx "LightAsFarAsThePump$Letters" "letter" "[I" ∈ TB) (hdg : decode cc pc = .ok (.getfield idx, 3)) (kk : J p l e R s m args below meth c D (cW q cI) A nL Q g (pc + 3) lo (.ref (q 25) :: st)) : J p l e R s m args below meth c D (cW q cI) A nL Q g pc lo (.ref (q 24) :: st) := J.get C 24 rfl rfl in_X2 0 (by decide) hl rfl hdg kk
theorem gf_X2_24_1 (C : JC p s m args c cc nL own D cI A E) {idx : Nat} (hl : Cond.fieldLink own idx "LightAsFarAsThePump$Letters" "size" "I" ∈ TB) (hdg : decode cc pc = .ok (.getfield idx, 3)) (kk : J p l e R s m args below meth c D (cW q cI) A nL Q g (pc + 3) lo (.int (g.1 24) :: st)) : J p l e R s m args below meth c D (cW q cI) A nL Q g pc lo (.ref (q 24) :: st) := J.get C 24 rfl rfl in_X2 1 (by decide) hl rfl hdg kk
theorem pf_X2_24_1 (C : JC p s m args c cc nL own D cI A E) {idx : Nat} {v : Int32} (hl : Cond.fieldLink own idx "LightAsFarAsThePump$Letters" "size" "I" ∈ TB) (hdg : decode cc pc = .ok (.putfield idx, 3)) (kk : J p l e R s m args below meth c D (cW q cI) A nL Q (sI g 24 v) (pc + 3) lo st) : J p l e R s m args below meth c D (cW q cI) A nL Q g pc lo (.int v :: .ref (q 24) :: st) := J.put C 24 rfl rfl in_X2 tyX2 tyX2_ok nmX2 1 (by decide) hl rfl (ty := .int) (by decide +kernel) rfl rfl (Nat.le_of_ble_eq_true rfl) rfl hdg kk
theorem gf_X5_26_0 (C : JC p s m args c cc nL own D cI A E) {idx : Nat} (hl : Cond.fieldLink own idx "LightAsFarAsThePump$Walk" "dark" "[I" ∈ TB) (hdg : decode cc pc = .ok (.getfield idx, 3)) (kk : J p l e R s m args below meth c D (cW q cI) A nL Q g (pc + 3) lo (.ref (q 27) :: st)) : J p l e R s m args below meth c D (cW q cI) A nL Q g pc lo (.ref (q 26) :: st) := J.get C 26 rfl rfl in_X5 0 (by decide) hl rfl hdg kk
theorem gf_X5_26_1 (C : JC p s m args c cc nL own D cI A E) {idx : Nat} (hl : Cond.fieldLink own idx "LightAsFarAsThePump$Walk" "light" "[I" ∈ TB) (hdg : decode cc pc = .ok (.getfield idx, 3)) (kk : J p l e R s m args below meth c D (cW q cI) A nL Q g (pc + 3) lo (.ref (q 28) :: st)) : J p l e R s m args below meth c D (cW q cI) A nL Q g pc lo (.ref (q 26) :: st) := J.get C 26 rfl rfl in_X5 1 (by decide) hl rfl hdg kk
theorem gf_X5_26_2 (C : JC p s m args c cc nL own D cI A E) {idx : Nat} (hl : Cond.fieldLink own idx "LightAsFarAsThePump$Walk" "cost" "[I" ∈ TB) (hdg : decode cc pc = .ok (.getfield idx, 3)) (kk : J p l e R s m args below meth c D (cW q cI) A nL Q g (pc + 3) lo (.ref (q 29) :: st)) : J p l e R s m args below meth c D (cW q cI) A nL Q g pc lo (.ref (q 26) :: st) := J.get C 26 rfl rfl in_X5 2 (by decide) hl rfl hdg kk
theorem gf_X5_26_3 (C : JC p s m args c cc nL own D cI A E) {idx : Nat} (hl : Cond.fieldLink own idx "LightAsFarAsThePump$Walk" "stood" "[I" ∈ TB) (hdg : decode cc pc = .ok (.getfield idx, 3)) (kk : J p l e R s m args below meth c D (cW q cI) A nL Q g (pc + 3) lo (.ref (q 30) :: st)) : J p l e R s m args below meth c D (cW q cI) A nL Q g pc lo (.ref (q 26) :: st) := J.get C 26 rfl rfl in_X5 3 (by decide) hl rfl hdg kk
theorem gf_X5_26_4 (C : JC p s m args c cc nL own D cI A E) {idx : Nat} (hl : Cond.fieldLink own idx "LightAsFarAsThePump$Walk" "had" "[I" ∈ TB) (hdg : decode cc pc = .ok (.getfield idx, 3)) (kk : J p l e R s m args below meth c D (cW q cI) A nL Q g (pc + 3) lo (.ref (q 31) :: st)) : J p l e R s m args below meth c D (cW q cI) A nL Q g pc lo (.ref (q 26) :: st) := J.get C 26 rfl rfl in_X5 4 (by decide) hl rfl hdg kk
theorem gf_X5_26_5 (C : JC p s m args c cc nL own D cI A E) {idx : Nat} (hl : Cond.fieldLink own idx "LightAsFarAsThePump$Walk" "whoWent" "[I" ∈ TB) (hdg : decode cc pc = .ok (.getfield idx, 3)) (kk : J p l e R s m args below meth c D (cW q cI) A nL Q g (pc + 3) lo (.ref (q 32) :: st)) : J p l e R s m args below meth c D (cW q cI) A nL Q g pc lo (.ref (q 26) :: st) := J.get C 26 rfl rfl in_X5 5 (by decide) hl rfl hdg kk
theorem gf_X5_26_6 (C : JC p s m args c cc nL own D cI A E) {idx : Nat} (hl : Cond.fieldLink own idx "LightAsFarAsThePump$Walk" "after" "[I" ∈ TB) (hdg : decode cc pc = .ok (.getfield idx, 3)) (kk : J p l e R s m args below meth c D (cW q cI) A nL Q g (pc + 3) lo (.ref (q 33) :: st)) : J p l e R s m args below meth c D (cW q cI) A nL Q g pc lo (.ref (q 26) :: st) := J.get C 26 rfl rfl in_X5 6 (by decide) hl rfl hdg kk
theorem gf_X5_26_7 (C : JC p s m args c cc nL own D cI A E) {idx : Nat} (hl : Cond.fieldLink own idx "LightAsFarAsThePump$Walk" "atEnd" "[I" ∈ TB) (hdg : decode cc pc = .ok (.getfield idx, 3)) (kk : J p l e R s m args below meth c D (cW q cI) A nL Q g (pc + 3) lo (.ref (q 34) :: st)) : J p l e R s m args below meth c D (cW q cI) A nL Q g pc lo (.ref (q 26) :: st) := J.get C 26 rfl rfl in_X5 7 (by decide) hl rfl hdg kk
theorem gf_X5_26_8 (C : JC p s m args c cc nL own D cI A E) {idx : Nat} (hl : Cond.fieldLink own idx "LightAsFarAsThePump$Walk" "lampCell" "[I" ∈ TB) (hdg : decode cc pc = .ok (.getfield idx, 3)) (kk : J p l e R s m args below meth c D (cW q cI) A nL Q g (pc + 3) lo (.ref (q 35) :: st)) : J p l e R s m args below meth c D (cW q cI) A nL Q g pc lo (.ref (q 26) :: st) := J.get C 26 rfl rfl in_X5 8 (by decide) hl rfl hdg kk
theorem gf_X5_26_9 (C : JC p s m args c cc nL own D cI A E) {idx : Nat} (hl : Cond.fieldLink own idx "LightAsFarAsThePump$Walk" "lampOil" "[I" ∈ TB) (hdg : decode cc pc = .ok (.getfield idx, 3)) (kk : J p l e R s m args below meth c D (cW q cI) A nL Q g (pc + 3) lo (.ref (q 36) :: st)) : J p l e R s m args below meth c D (cW q cI) A nL Q g pc lo (.ref (q 26) :: st) := J.get C 26 rfl rfl in_X5 9 (by decide) hl rfl hdg kk
theorem gf_X5_26_10 (C : JC p s m args c cc nL own D cI A E) {idx : Nat} (hl : Cond.fieldLink own idx "LightAsFarAsThePump$Walk" "lamps" "I" ∈ TB) (hdg : decode cc pc = .ok (.getfield idx, 3)) (kk : J p l e R s m args below meth c D (cW q cI) A nL Q g (pc + 3) lo (.int (g.1 26) :: st)) : J p l e R s m args below meth c D (cW q cI) A nL Q g pc lo (.ref (q 26) :: st) := J.get C 26 rfl rfl in_X5 10 (by decide) hl rfl hdg kk
theorem pf_X5_26_10 (C : JC p s m args c cc nL own D cI A E) {idx : Nat} {v : Int32} (hl : Cond.fieldLink own idx "LightAsFarAsThePump$Walk" "lamps" "I" ∈ TB) (hdg : decode cc pc = .ok (.putfield idx, 3)) (kk : J p l e R s m args below meth c D (cW q cI) A nL Q (sI g 26 v) (pc + 3) lo st) : J p l e R s m args below meth c D (cW q cI) A nL Q g pc lo (.int v :: .ref (q 26) :: st) := J.put C 26 rfl rfl in_X5 tyX5 tyX5_ok nmX5 10 (by decide) hl rfl (ty := .int) (by decide +kernel) rfl rfl (Nat.le_of_ble_eq_true rfl) rfl hdg kk
theorem gf_X5_26_11 (C : JC p s m args c cc nL own D cI A E) {idx : Nat} (hl : Cond.fieldLink own idx "LightAsFarAsThePump$Walk" "went" "I" ∈ TB) (hdg : decode cc pc = .ok (.getfield idx, 3)) (kk : J p l e R s m args below meth c D (cW q cI) A nL Q g (pc + 3) lo (.int (g.1 27) :: st)) : J p l e R s m args below meth c D (cW q cI) A nL Q g pc lo (.ref (q 26) :: st) := J.get C 26 rfl rfl in_X5 11 (by decide) hl rfl hdg kk
theorem pf_X5_26_11 (C : JC p s m args c cc nL own D cI A E) {idx : Nat} {v : Int32} (hl : Cond.fieldLink own idx "LightAsFarAsThePump$Walk" "went" "I" ∈ TB) (hdg : decode cc pc = .ok (.putfield idx, 3)) (kk : J p l e R s m args below meth c D (cW q cI) A nL Q (sI g 27 v) (pc + 3) lo st) : J p l e R s m args below meth c D (cW q cI) A nL Q g pc lo (.int v :: .ref (q 26) :: st) := J.put C 26 rfl rfl in_X5 tyX5 tyX5_ok nmX5 11 (by decide) hl rfl (ty := .int) (by decide +kernel) rfl rfl (Nat.le_of_ble_eq_true rfl) rfl hdg kk
theorem gf_X5_26_12 (C : JC p s m args c cc nL own D cI A E) {idx : Nat} (hl : Cond.fieldLink own idx "LightAsFarAsThePump$Walk" "allCost" "I" ∈ TB) (hdg : decode cc pc = .ok (.getfield idx, 3)) (kk : J p l e R s m args below meth c D (cW q cI) A nL Q g (pc + 3) lo (.int (g.1 28) :: st)) : J p l e R s m args below meth c D (cW q cI) A nL Q g pc lo (.ref (q 26) :: st) := J.get C 26 rfl rfl in_X5 12 (by decide) hl rfl hdg kk
theorem pf_X5_26_12 (C : JC p s m args c cc nL own D cI A E) {idx : Nat} {v : Int32} (hl : Cond.fieldLink own idx "LightAsFarAsThePump$Walk" "allCost" "I" ∈ TB) (hdg : decode cc pc = .ok (.putfield idx, 3)) (kk : J p l e R s m args below meth c D (cW q cI) A nL Q (sI g 28 v) (pc + 3) lo st) : J p l e R s m args below meth c D (cW q cI) A nL Q g pc lo (.int v :: .ref (q 26) :: st) := J.put C 26 rfl rfl in_X5 tyX5 tyX5_ok nmX5 12 (by decide) hl rfl (ty := .int) (by decide +kernel) rfl rfl (Nat.le_of_ble_eq_true rfl) rfl hdg kk
theorem gf_X5_26_13 (C : JC p s m args c cc nL own D cI A E) {idx : Nat} (hl : Cond.fieldLink own idx "LightAsFarAsThePump$Walk" "allDark" "I" ∈ TB) (hdg : decode cc pc = .ok (.getfield idx, 3)) (kk : J p l e R s m args below meth c D (cW q cI) A nL Q g (pc + 3) lo (.int (g.1 29) :: st)) : J p l e R s m args below meth c D (cW q cI) A nL Q g pc lo (.ref (q 26) :: st) := J.get C 26 rfl rfl in_X5 13 (by decide) hl rfl hdg kk
theorem pf_X5_26_13 (C : JC p s m args c cc nL own D cI A E) {idx : Nat} {v : Int32} (hl : Cond.fieldLink own idx "LightAsFarAsThePump$Walk" "allDark" "I" ∈ TB) (hdg : decode cc pc = .ok (.putfield idx, 3)) (kk : J p l e R s m args below meth c D (cW q cI) A nL Q (sI g 29 v) (pc + 3) lo st) : J p l e R s m args below meth c D (cW q cI) A nL Q g pc lo (.int v :: .ref (q 26) :: st) := J.put C 26 rfl rfl in_X5 tyX5 tyX5_ok nmX5 13 (by decide) hl rfl (ty := .int) (by decide +kernel) rfl rfl (Nat.le_of_ble_eq_true rfl) rfl hdg kk
theorem gf_X5_26_14 (C : JC p s m args c cc nL own D cI A E) {idx : Nat} (hl : Cond.fieldLink own idx "LightAsFarAsThePump$Walk" "allLight" "I" ∈ TB) (hdg : decode cc pc = .ok (.getfield idx, 3)) (kk : J p l e R s m args below meth c D (cW q cI) A nL Q g (pc + 3) lo (.int (g.1 30) :: st)) : J p l e R s m args below meth c D (cW q cI) A nL Q g pc lo (.ref (q 26) :: st) := J.get C 26 rfl rfl in_X5 14 (by decide) hl rfl hdg kk
theorem pf_X5_26_14 (C : JC p s m args c cc nL own D cI A E) {idx : Nat} {v : Int32} (hl : Cond.fieldLink own idx "LightAsFarAsThePump$Walk" "allLight" "I" ∈ TB) (hdg : decode cc pc = .ok (.putfield idx, 3)) (kk : J p l e R s m args below meth c D (cW q cI) A nL Q (sI g 30 v) (pc + 3) lo st) : J p l e R s m args below meth c D (cW q cI) A nL Q g pc lo (.int v :: .ref (q 26) :: st) := J.put C 26 rfl rfl in_X5 tyX5 tyX5_ok nmX5 14 (by decide) hl rfl (ty := .int) (by decide +kernel) rfl rfl (Nat.le_of_ble_eq_true rfl) rfl hdg kk
theorem gf_X5_26_15 (C : JC p s m args c cc nL own D cI A E) {idx : Nat} (hl : Cond.fieldLink own idx "LightAsFarAsThePump$Walk" "takers" "I" ∈ TB) (hdg : decode cc pc = .ok (.getfield idx, 3)) (kk : J p l e R s m args below meth c D (cW q cI) A nL Q g (pc + 3) lo (.int (g.1 31) :: st)) : J p l e R s m args below meth c D (cW q cI) A nL Q g pc lo (.ref (q 26) :: st) := J.get C 26 rfl rfl in_X5 15 (by decide) hl rfl hdg kk
theorem pf_X5_26_15 (C : JC p s m args c cc nL own D cI A E) {idx : Nat} {v : Int32} (hl : Cond.fieldLink own idx "LightAsFarAsThePump$Walk" "takers" "I" ∈ TB) (hdg : decode cc pc = .ok (.putfield idx, 3)) (kk : J p l e R s m args below meth c D (cW q cI) A nL Q (sI g 31 v) (pc + 3) lo st) : J p l e R s m args below meth c D (cW q cI) A nL Q g pc lo (.int v :: .ref (q 26) :: st) := J.put C 26 rfl rfl in_X5 tyX5 tyX5_ok nmX5 15 (by decide) hl rfl (ty := .int) (by decide +kernel) rfl rfl (Nat.le_of_ble_eq_true rfl) rfl hdg kk
theorem gf_X5_26_16 (C : JC p s m args c cc nL own D cI A E) {idx : Nat} (hl : Cond.fieldLink own idx "LightAsFarAsThePump$Walk" "lastTaker" "I" ∈ TB) (hdg : decode cc pc = .ok (.getfield idx, 3)) (kk : J p l e R s m args below meth c D (cW q cI) A nL Q g (pc + 3) lo (.int (g.1 32) :: st)) : J p l e R s m args below meth c D (cW q cI) A nL Q g pc lo (.ref (q 26) :: st) := J.get C 26 rfl rfl in_X5 16 (by decide) hl rfl hdg kk
theorem pf_X5_26_16 (C : JC p s m args c cc nL own D cI A E) {idx : Nat} {v : Int32} (hl : Cond.fieldLink own idx "LightAsFarAsThePump$Walk" "lastTaker" "I" ∈ TB) (hdg : decode cc pc = .ok (.putfield idx, 3)) (kk : J p l e R s m args below meth c D (cW q cI) A nL Q (sI g 32 v) (pc + 3) lo st) : J p l e R s m args below meth c D (cW q cI) A nL Q g pc lo (.int v :: .ref (q 26) :: st) := J.put C 26 rfl rfl in_X5 tyX5 tyX5_ok nmX5 16 (by decide) hl rfl (ty := .int) (by decide +kernel) rfl rfl (Nat.le_of_ble_eq_true rfl) rfl hdg kk
theorem gf_X3_37_0 (C : JC p s m args c cc nL own D cI A E) {idx : Nat} (hl : Cond.fieldLink own idx "LightAsFarAsThePump$Orders" "best" "[I" ∈ TB) (hdg : decode cc pc = .ok (.getfield idx, 3)) (kk : J p l e R s m args below meth c D (cW q cI) A nL Q g (pc + 3) lo (.ref (q 38) :: st)) : J p l e R s m args below meth c D (cW q cI) A nL Q g pc lo (.ref (q 37) :: st) := J.get C 37 rfl rfl in_X3 0 (by decide) hl rfl hdg kk
theorem gf_X3_37_1 (C : JC p s m args c cc nL own D cI A E) {idx : Nat} (hl : Cond.fieldLink own idx "LightAsFarAsThePump$Orders" "leastCost" "I" ∈ TB) (hdg : decode cc pc = .ok (.getfield idx, 3)) (kk : J p l e R s m args below meth c D (cW q cI) A nL Q g (pc + 3) lo (.int (g.1 37) :: st)) : J p l e R s m args below meth c D (cW q cI) A nL Q g pc lo (.ref (q 37) :: st) := J.get C 37 rfl rfl in_X3 1 (by decide) hl rfl hdg kk
theorem pf_X3_37_1 (C : JC p s m args c cc nL own D cI A E) {idx : Nat} {v : Int32} (hl : Cond.fieldLink own idx "LightAsFarAsThePump$Orders" "leastCost" "I" ∈ TB) (hdg : decode cc pc = .ok (.putfield idx, 3)) (kk : J p l e R s m args below meth c D (cW q cI) A nL Q (sI g 37 v) (pc + 3) lo st) : J p l e R s m args below meth c D (cW q cI) A nL Q g pc lo (.int v :: .ref (q 37) :: st) := J.put C 37 rfl rfl in_X3 tyX3 tyX3_ok nmX3 1 (by decide) hl rfl (ty := .int) (by decide +kernel) rfl rfl (Nat.le_of_ble_eq_true rfl) rfl hdg kk
theorem gf_X3_37_2 (C : JC p s m args c cc nL own D cI A E) {idx : Nat} (hl : Cond.fieldLink own idx "LightAsFarAsThePump$Orders" "found" "Z" ∈ TB) (hdg : decode cc pc = .ok (.getfield idx, 3)) (kk : J p l e R s m args below meth c D (cW q cI) A nL Q g (pc + 3) lo (.int (g.1 38) :: st)) : J p l e R s m args below meth c D (cW q cI) A nL Q g pc lo (.ref (q 37) :: st) := J.get C 37 rfl rfl in_X3 2 (by decide) hl rfl hdg kk
theorem pf_X3_37_2 (C : JC p s m args c cc nL own D cI A E) {idx : Nat} {v : Int32} (hz : narrow .boolean (.int v) = .int v) (hzf : fits .boolean (.int v) = true) (hl : Cond.fieldLink own idx "LightAsFarAsThePump$Orders" "found" "Z" ∈ TB) (hdg : decode cc pc = .ok (.putfield idx, 3)) (kk : J p l e R s m args below meth c D (cW q cI) A nL Q (sI g 38 v) (pc + 3) lo st) : J p l e R s m args below meth c D (cW q cI) A nL Q g pc lo (.int v :: .ref (q 37) :: st) := J.put C 37 rfl rfl in_X3 tyX3 tyX3_ok nmX3 2 (by decide) hl rfl (ty := .boolean) (by decide +kernel) hz hzf (Nat.le_of_ble_eq_true rfl) rfl hdg kk
theorem gf_X3_37_3 (C : JC p s m args c cc nL own D cI A E) {idx : Nat} (hl : Cond.fieldLink own idx "LightAsFarAsThePump$Orders" "order" "[I" ∈ TB) (hdg : decode cc pc = .ok (.getfield idx, 3)) (kk : J p l e R s m args below meth c D (cW q cI) A nL Q g (pc + 3) lo (.ref (q 39) :: st)) : J p l e R s m args below meth c D (cW q cI) A nL Q g pc lo (.ref (q 37) :: st) := J.get C 37 rfl rfl in_X3 3 (by decide) hl rfl hdg kk
theorem gf_X1_40_0 (C : JC p s m args c cc nL own D cI A E) {idx : Nat} (hl : Cond.fieldLink own idx "LightAsFarAsThePump$Debts" "net" "[I" ∈ TB) (hdg : decode cc pc = .ok (.getfield idx, 3)) (kk : J p l e R s m args below meth c D (cW q cI) A nL Q g (pc + 3) lo (.ref (q 41) :: st)) : J p l e R s m args below meth c D (cW q cI) A nL Q g pc lo (.ref (q 40) :: st) := J.get C 40 rfl rfl in_X1 0 (by decide) hl rfl hdg kk
theorem gf_X1_40_1 (C : JC p s m args c cc nL own D cI A E) {idx : Nat} (hl : Cond.fieldLink own idx "LightAsFarAsThePump$Debts" "sum" "[I" ∈ TB) (hdg : decode cc pc = .ok (.getfield idx, 3)) (kk : J p l e R s m args below meth c D (cW q cI) A nL Q g (pc + 3) lo (.ref (q 42) :: st)) : J p l e R s m args below meth c D (cW q cI) A nL Q g pc lo (.ref (q 40) :: st) := J.get C 40 rfl rfl in_X1 1 (by decide) hl rfl hdg kk
theorem gf_X1_40_2 (C : JC p s m args c cc nL own D cI A E) {idx : Nat} (hl : Cond.fieldLink own idx "LightAsFarAsThePump$Debts" "groups" "[I" ∈ TB) (hdg : decode cc pc = .ok (.getfield idx, 3)) (kk : J p l e R s m args below meth c D (cW q cI) A nL Q g (pc + 3) lo (.ref (q 43) :: st)) : J p l e R s m args below meth c D (cW q cI) A nL Q g pc lo (.ref (q 40) :: st) := J.get C 40 rfl rfl in_X1 2 (by decide) hl rfl hdg kk
theorem gf_X0_0 (ha : isAl a) (C : JC p s m args c cc nL own D cI A E) {idx : Nat} (hl : Cond.fieldLink own idx "LightAsFarAsThePump$Alley" "setting" "[I" ∈ TB) (hdg : decode cc pc = .ok (.getfield idx, 3)) (kk : J p l e R s m args below meth c D (cW q cI) A nL Q g (pc + 3) lo (.ref (q (a + 1)) :: st)) : J p l e R s m args below meth c D (cW q cI) A nL Q g pc lo (.ref (q a) :: st) := by
  rcases ha with rfl | rfl | rfl
  · exact J.get C 3 rfl rfl in_X0 0 (by decide) hl rfl hdg kk
  · exact J.get C 10 rfl rfl in_X0 0 (by decide) hl rfl hdg kk
  · exact J.get C 17 rfl rfl in_X0 0 (by decide) hl rfl hdg kk
theorem gf_X0_1 (ha : isAl a) (C : JC p s m args c cc nL own D cI A E) {idx : Nat} (hl : Cond.fieldLink own idx "LightAsFarAsThePump$Alley" "kind" "[I" ∈ TB) (hdg : decode cc pc = .ok (.getfield idx, 3)) (kk : J p l e R s m args below meth c D (cW q cI) A nL Q g (pc + 3) lo (.ref (q (a + 2)) :: st)) : J p l e R s m args below meth c D (cW q cI) A nL Q g pc lo (.ref (q a) :: st) := by
  rcases ha with rfl | rfl | rfl
  · exact J.get C 3 rfl rfl in_X0 1 (by decide) hl rfl hdg kk
  · exact J.get C 10 rfl rfl in_X0 1 (by decide) hl rfl hdg kk
  · exact J.get C 17 rfl rfl in_X0 1 (by decide) hl rfl hdg kk
theorem gf_X0_2 (ha : isAl a) (C : JC p s m args c cc nL own D cI A E) {idx : Nat} (hl : Cond.fieldLink own idx "LightAsFarAsThePump$Alley" "figure" "[I" ∈ TB) (hdg : decode cc pc = .ok (.getfield idx, 3)) (kk : J p l e R s m args below meth c D (cW q cI) A nL Q g (pc + 3) lo (.ref (q (a + 3)) :: st)) : J p l e R s m args below meth c D (cW q cI) A nL Q g pc lo (.ref (q a) :: st) := by
  rcases ha with rfl | rfl | rfl
  · exact J.get C 3 rfl rfl in_X0 2 (by decide) hl rfl hdg kk
  · exact J.get C 10 rfl rfl in_X0 2 (by decide) hl rfl hdg kk
  · exact J.get C 17 rfl rfl in_X0 2 (by decide) hl rfl hdg kk
theorem gf_X0_3 (ha : isAl a) (C : JC p s m args c cc nL own D cI A E) {idx : Nat} (hl : Cond.fieldLink own idx "LightAsFarAsThePump$Alley" "from" "[I" ∈ TB) (hdg : decode cc pc = .ok (.getfield idx, 3)) (kk : J p l e R s m args below meth c D (cW q cI) A nL Q g (pc + 3) lo (.ref (q (a + 4)) :: st)) : J p l e R s m args below meth c D (cW q cI) A nL Q g pc lo (.ref (q a) :: st) := by
  rcases ha with rfl | rfl | rfl
  · exact J.get C 3 rfl rfl in_X0 3 (by decide) hl rfl hdg kk
  · exact J.get C 10 rfl rfl in_X0 3 (by decide) hl rfl hdg kk
  · exact J.get C 17 rfl rfl in_X0 3 (by decide) hl rfl hdg kk
theorem gf_X0_4 (ha : isAl a) (C : JC p s m args c cc nL own D cI A E) {idx : Nat} (hl : Cond.fieldLink own idx "LightAsFarAsThePump$Alley" "to" "[I" ∈ TB) (hdg : decode cc pc = .ok (.getfield idx, 3)) (kk : J p l e R s m args below meth c D (cW q cI) A nL Q g (pc + 3) lo (.ref (q (a + 5)) :: st)) : J p l e R s m args below meth c D (cW q cI) A nL Q g pc lo (.ref (q a) :: st) := by
  rcases ha with rfl | rfl | rfl
  · exact J.get C 3 rfl rfl in_X0 4 (by decide) hl rfl hdg kk
  · exact J.get C 10 rfl rfl in_X0 4 (by decide) hl rfl hdg kk
  · exact J.get C 17 rfl rfl in_X0 4 (by decide) hl rfl hdg kk
theorem gf_X0_5 (ha : isAl a) (C : JC p s m args c cc nL own D cI A E) {idx : Nat} (hl : Cond.fieldLink own idx "LightAsFarAsThePump$Alley" "hour" "[I" ∈ TB) (hdg : decode cc pc = .ok (.getfield idx, 3)) (kk : J p l e R s m args below meth c D (cW q cI) A nL Q g (pc + 3) lo (.ref (q (a + 6)) :: st)) : J p l e R s m args below meth c D (cW q cI) A nL Q g pc lo (.ref (q a) :: st) := by
  rcases ha with rfl | rfl | rfl
  · exact J.get C 3 rfl rfl in_X0 5 (by decide) hl rfl hdg kk
  · exact J.get C 10 rfl rfl in_X0 5 (by decide) hl rfl hdg kk
  · exact J.get C 17 rfl rfl in_X0 5 (by decide) hl rfl hdg kk
theorem gf_X0_6 (ha : isAl a) (C : JC p s m args c cc nL own D cI A E) {idx : Nat} (hl : Cond.fieldLink own idx "LightAsFarAsThePump$Alley" "size" "I" ∈ TB) (hdg : decode cc pc = .ok (.getfield idx, 3)) (kk : J p l e R s m args below meth c D (cW q cI) A nL Q g (pc + 3) lo (.int (g.1 a) :: st)) : J p l e R s m args below meth c D (cW q cI) A nL Q g pc lo (.ref (q a) :: st) := by
  rcases ha with rfl | rfl | rfl
  · exact J.get C 3 rfl rfl in_X0 6 (by decide) hl rfl hdg kk
  · exact J.get C 10 rfl rfl in_X0 6 (by decide) hl rfl hdg kk
  · exact J.get C 17 rfl rfl in_X0 6 (by decide) hl rfl hdg kk
theorem pf_X0_6 (ha : isAl a) (C : JC p s m args c cc nL own D cI A E) {idx : Nat} {v : Int32} (hl : Cond.fieldLink own idx "LightAsFarAsThePump$Alley" "size" "I" ∈ TB) (hdg : decode cc pc = .ok (.putfield idx, 3)) (kk : J p l e R s m args below meth c D (cW q cI) A nL Q (sI g a v) (pc + 3) lo st) : J p l e R s m args below meth c D (cW q cI) A nL Q g pc lo (.int v :: .ref (q a) :: st) := by
  rcases ha with rfl | rfl | rfl
  · exact J.put C 3 rfl rfl in_X0 tyX0 tyX0_ok nmX0 6 (by decide) hl rfl (ty := .int) (by decide +kernel) rfl rfl (Nat.le_of_ble_eq_true rfl) rfl hdg kk
  · exact J.put C 10 rfl rfl in_X0 tyX0 tyX0_ok nmX0 6 (by decide) hl rfl (ty := .int) (by decide +kernel) rfl rfl (Nat.le_of_ble_eq_true rfl) rfl hdg kk
  · exact J.put C 17 rfl rfl in_X0 tyX0 tyX0_ok nmX0 6 (by decide) hl rfl (ty := .int) (by decide +kernel) rfl rfl (Nat.le_of_ble_eq_true rfl) rfl hdg kk
theorem gf_X0_7 (ha : isAl a) (C : JC p s m args c cc nL own D cI A E) {idx : Nat} (hl : Cond.fieldLink own idx "LightAsFarAsThePump$Alley" "secondLamp" "I" ∈ TB) (hdg : decode cc pc = .ok (.getfield idx, 3)) (kk : J p l e R s m args below meth c D (cW q cI) A nL Q g (pc + 3) lo (.int (g.1 (a + 1)) :: st)) : J p l e R s m args below meth c D (cW q cI) A nL Q g pc lo (.ref (q a) :: st) := by
  rcases ha with rfl | rfl | rfl
  · exact J.get C 3 rfl rfl in_X0 7 (by decide) hl rfl hdg kk
  · exact J.get C 10 rfl rfl in_X0 7 (by decide) hl rfl hdg kk
  · exact J.get C 17 rfl rfl in_X0 7 (by decide) hl rfl hdg kk
theorem pf_X0_7 (ha : isAl a) (C : JC p s m args c cc nL own D cI A E) {idx : Nat} {v : Int32} (hl : Cond.fieldLink own idx "LightAsFarAsThePump$Alley" "secondLamp" "I" ∈ TB) (hdg : decode cc pc = .ok (.putfield idx, 3)) (kk : J p l e R s m args below meth c D (cW q cI) A nL Q (sI g (a + 1) v) (pc + 3) lo st) : J p l e R s m args below meth c D (cW q cI) A nL Q g pc lo (.int v :: .ref (q a) :: st) := by
  rcases ha with rfl | rfl | rfl
  · exact J.put C 3 rfl rfl in_X0 tyX0 tyX0_ok nmX0 7 (by decide) hl rfl (ty := .int) (by decide +kernel) rfl rfl (Nat.le_of_ble_eq_true rfl) rfl hdg kk
  · exact J.put C 10 rfl rfl in_X0 tyX0 tyX0_ok nmX0 7 (by decide) hl rfl (ty := .int) (by decide +kernel) rfl rfl (Nat.le_of_ble_eq_true rfl) rfl hdg kk
  · exact J.put C 17 rfl rfl in_X0 tyX0 tyX0_ok nmX0 7 (by decide) hl rfl (ty := .int) (by decide +kernel) rfl rfl (Nat.le_of_ble_eq_true rfl) rfl hdg kk
theorem gf_X7_0_0 (C : JC p s m args c cc nL own D cI A E) {idx : Nat} (hl : Cond.fieldLink own idx "LightAsFarAsThePumpModel" "goers" "I" ∈ TB) (hdg : decode cc pc = .ok (.getfield idx, 3)) (kk : J p l e R s m args below meth c D (mW q cI) A nL Q g (pc + 3) lo (.int (g.1 0) :: st)) : J p l e R s m args below meth c D (mW q cI) A nL Q g pc lo (.ref (q 0) :: st) := J.get C 0 rfl rfl in_X7 0 (by decide) hl rfl hdg kk
theorem pf_X7_0_0 (C : JC p s m args c cc nL own D cI A E) {idx : Nat} {v : Int32} (hl : Cond.fieldLink own idx "LightAsFarAsThePumpModel" "goers" "I" ∈ TB) (hdg : decode cc pc = .ok (.putfield idx, 3)) (kk : J p l e R s m args below meth c D (mW q cI) A nL Q (sI g 0 v) (pc + 3) lo st) : J p l e R s m args below meth c D (mW q cI) A nL Q g pc lo (.int v :: .ref (q 0) :: st) := J.put C 0 rfl rfl in_X7 tyX7 tyX7_ok nmX7 0 (by decide) hl rfl (ty := .int) (by decide +kernel) rfl rfl (Nat.le_of_ble_eq_true rfl) rfl hdg kk
theorem gf_X7_0_1 (C : JC p s m args c cc nL own D cI A E) {idx : Nat} (hl : Cond.fieldLink own idx "LightAsFarAsThePumpModel" "kind" "[I" ∈ TB) (hdg : decode cc pc = .ok (.getfield idx, 3)) (kk : J p l e R s m args below meth c D (mW q cI) A nL Q g (pc + 3) lo (.ref (q 1) :: st)) : J p l e R s m args below meth c D (mW q cI) A nL Q g pc lo (.ref (q 0) :: st) := J.get C 0 rfl rfl in_X7 1 (by decide) hl rfl hdg kk
theorem gf_X7_0_2 (C : JC p s m args c cc nL own D cI A E) {idx : Nat} (hl : Cond.fieldLink own idx "LightAsFarAsThePumpModel" "figure" "[I" ∈ TB) (hdg : decode cc pc = .ok (.getfield idx, 3)) (kk : J p l e R s m args below meth c D (mW q cI) A nL Q g (pc + 3) lo (.ref (q 2) :: st)) : J p l e R s m args below meth c D (mW q cI) A nL Q g pc lo (.ref (q 0) :: st) := J.get C 0 rfl rfl in_X7 2 (by decide) hl rfl hdg kk
theorem gf_X7_0_3 (C : JC p s m args c cc nL own D cI A E) {idx : Nat} (hl : Cond.fieldLink own idx "LightAsFarAsThePumpModel" "from" "[I" ∈ TB) (hdg : decode cc pc = .ok (.getfield idx, 3)) (kk : J p l e R s m args below meth c D (mW q cI) A nL Q g (pc + 3) lo (.ref (q 3) :: st)) : J p l e R s m args below meth c D (mW q cI) A nL Q g pc lo (.ref (q 0) :: st) := J.get C 0 rfl rfl in_X7 3 (by decide) hl rfl hdg kk
theorem gf_X7_0_4 (C : JC p s m args c cc nL own D cI A E) {idx : Nat} (hl : Cond.fieldLink own idx "LightAsFarAsThePumpModel" "to" "[I" ∈ TB) (hdg : decode cc pc = .ok (.getfield idx, 3)) (kk : J p l e R s m args below meth c D (mW q cI) A nL Q g (pc + 3) lo (.ref (q 4) :: st)) : J p l e R s m args below meth c D (mW q cI) A nL Q g pc lo (.ref (q 0) :: st) := J.get C 0 rfl rfl in_X7 4 (by decide) hl rfl hdg kk
theorem gf_X7_0_5 (C : JC p s m args c cc nL own D cI A E) {idx : Nat} (hl : Cond.fieldLink own idx "LightAsFarAsThePumpModel" "hour" "[I" ∈ TB) (hdg : decode cc pc = .ok (.getfield idx, 3)) (kk : J p l e R s m args below meth c D (mW q cI) A nL Q g (pc + 3) lo (.ref (q 5) :: st)) : J p l e R s m args below meth c D (mW q cI) A nL Q g pc lo (.ref (q 0) :: st) := J.get C 0 rfl rfl in_X7 5 (by decide) hl rfl hdg kk
theorem gf_X7_0_6 (C : JC p s m args c cc nL own D cI A E) {idx : Nat} (hl : Cond.fieldLink own idx "LightAsFarAsThePumpModel" "set" "[I" ∈ TB) (hdg : decode cc pc = .ok (.getfield idx, 3)) (kk : J p l e R s m args below meth c D (mW q cI) A nL Q g (pc + 3) lo (.ref (q 6) :: st)) : J p l e R s m args below meth c D (mW q cI) A nL Q g pc lo (.ref (q 0) :: st) := J.get C 0 rfl rfl in_X7 6 (by decide) hl rfl hdg kk
theorem gf_X7_0_7 (C : JC p s m args c cc nL own D cI A E) {idx : Nat} (hl : Cond.fieldLink own idx "LightAsFarAsThePumpModel" "letters" "I" ∈ TB) (hdg : decode cc pc = .ok (.getfield idx, 3)) (kk : J p l e R s m args below meth c D (mW q cI) A nL Q g (pc + 3) lo (.int (g.1 1) :: st)) : J p l e R s m args below meth c D (mW q cI) A nL Q g pc lo (.ref (q 0) :: st) := J.get C 0 rfl rfl in_X7 7 (by decide) hl rfl hdg kk
theorem pf_X7_0_7 (C : JC p s m args c cc nL own D cI A E) {idx : Nat} {v : Int32} (hl : Cond.fieldLink own idx "LightAsFarAsThePumpModel" "letters" "I" ∈ TB) (hdg : decode cc pc = .ok (.putfield idx, 3)) (kk : J p l e R s m args below meth c D (mW q cI) A nL Q (sI g 1 v) (pc + 3) lo st) : J p l e R s m args below meth c D (mW q cI) A nL Q g pc lo (.int v :: .ref (q 0) :: st) := J.put C 0 rfl rfl in_X7 tyX7 tyX7_ok nmX7 7 (by decide) hl rfl (ty := .int) (by decide +kernel) rfl rfl (Nat.le_of_ble_eq_true rfl) rfl hdg kk
theorem gf_X7_0_8 (C : JC p s m args c cc nL own D cI A E) {idx : Nat} (hl : Cond.fieldLink own idx "LightAsFarAsThePumpModel" "letter" "[I" ∈ TB) (hdg : decode cc pc = .ok (.getfield idx, 3)) (kk : J p l e R s m args below meth c D (mW q cI) A nL Q g (pc + 3) lo (.ref (q 7) :: st)) : J p l e R s m args below meth c D (mW q cI) A nL Q g pc lo (.ref (q 0) :: st) := J.get C 0 rfl rfl in_X7 8 (by decide) hl rfl hdg kk
theorem gf_X7_0_9 (C : JC p s m args c cc nL own D cI A E) {idx : Nat} (hl : Cond.fieldLink own idx "LightAsFarAsThePumpModel" "at" "I" ∈ TB) (hdg : decode cc pc = .ok (.getfield idx, 3)) (kk : J p l e R s m args below meth c D (mW q cI) A nL Q g (pc + 3) lo (.int (g.1 2) :: st)) : J p l e R s m args below meth c D (mW q cI) A nL Q g pc lo (.ref (q 0) :: st) := J.get C 0 rfl rfl in_X7 9 (by decide) hl rfl hdg kk
theorem pf_X7_0_9 (C : JC p s m args c cc nL own D cI A E) {idx : Nat} {v : Int32} (hl : Cond.fieldLink own idx "LightAsFarAsThePumpModel" "at" "I" ∈ TB) (hdg : decode cc pc = .ok (.putfield idx, 3)) (kk : J p l e R s m args below meth c D (mW q cI) A nL Q (sI g 2 v) (pc + 3) lo st) : J p l e R s m args below meth c D (mW q cI) A nL Q g pc lo (.int v :: .ref (q 0) :: st) := J.put C 0 rfl rfl in_X7 tyX7 tyX7_ok nmX7 9 (by decide) hl rfl (ty := .int) (by decide +kernel) rfl rfl (Nat.le_of_ble_eq_true rfl) rfl hdg kk
theorem gf_X7_0_10 (C : JC p s m args c cc nL own D cI A E) {idx : Nat} (hl : Cond.fieldLink own idx "LightAsFarAsThePumpModel" "value" "[I" ∈ TB) (hdg : decode cc pc = .ok (.getfield idx, 3)) (kk : J p l e R s m args below meth c D (mW q cI) A nL Q g (pc + 3) lo (.ref (q 8) :: st)) : J p l e R s m args below meth c D (mW q cI) A nL Q g pc lo (.ref (q 0) :: st) := J.get C 0 rfl rfl in_X7 10 (by decide) hl rfl hdg kk
theorem gf_X7_0_11 (C : JC p s m args c cc nL own D cI A E) {idx : Nat} (hl : Cond.fieldLink own idx "LightAsFarAsThePumpModel" "inRow" "I" ∈ TB) (hdg : decode cc pc = .ok (.getfield idx, 3)) (kk : J p l e R s m args below meth c D (mW q cI) A nL Q g (pc + 3) lo (.int (g.1 3) :: st)) : J p l e R s m args below meth c D (mW q cI) A nL Q g pc lo (.ref (q 0) :: st) := J.get C 0 rfl rfl in_X7 11 (by decide) hl rfl hdg kk
theorem pf_X7_0_11 (C : JC p s m args c cc nL own D cI A E) {idx : Nat} {v : Int32} (hl : Cond.fieldLink own idx "LightAsFarAsThePumpModel" "inRow" "I" ∈ TB) (hdg : decode cc pc = .ok (.putfield idx, 3)) (kk : J p l e R s m args below meth c D (mW q cI) A nL Q (sI g 3 v) (pc + 3) lo st) : J p l e R s m args below meth c D (mW q cI) A nL Q g pc lo (.int v :: .ref (q 0) :: st) := J.put C 0 rfl rfl in_X7 tyX7 tyX7_ok nmX7 11 (by decide) hl rfl (ty := .int) (by decide +kernel) rfl rfl (Nat.le_of_ble_eq_true rfl) rfl hdg kk
theorem gf_X7_0_12 (C : JC p s m args c cc nL own D cI A E) {idx : Nat} (hl : Cond.fieldLink own idx "LightAsFarAsThePumpModel" "row" "[I" ∈ TB) (hdg : decode cc pc = .ok (.getfield idx, 3)) (kk : J p l e R s m args below meth c D (mW q cI) A nL Q g (pc + 3) lo (.ref (q 9) :: st)) : J p l e R s m args below meth c D (mW q cI) A nL Q g pc lo (.ref (q 0) :: st) := J.get C 0 rfl rfl in_X7 12 (by decide) hl rfl hdg kk
theorem gf_X7_0_13 (C : JC p s m args c cc nL own D cI A E) {idx : Nat} (hl : Cond.fieldLink own idx "LightAsFarAsThePumpModel" "refusals" "[I" ∈ TB) (hdg : decode cc pc = .ok (.getfield idx, 3)) (kk : J p l e R s m args below meth c D (mW q cI) A nL Q g (pc + 3) lo (.ref (q 10) :: st)) : J p l e R s m args below meth c D (mW q cI) A nL Q g pc lo (.ref (q 0) :: st) := J.get C 0 rfl rfl in_X7 13 (by decide) hl rfl hdg kk
theorem gf_X7_0_14 (C : JC p s m args c cc nL own D cI A E) {idx : Nat} (hl : Cond.fieldLink own idx "LightAsFarAsThePumpModel" "imaged" "Z" ∈ TB) (hdg : decode cc pc = .ok (.getfield idx, 3)) (kk : J p l e R s m args below meth c D (mW q cI) A nL Q g (pc + 3) lo (.int (g.1 4) :: st)) : J p l e R s m args below meth c D (mW q cI) A nL Q g pc lo (.ref (q 0) :: st) := J.get C 0 rfl rfl in_X7 14 (by decide) hl rfl hdg kk
theorem pf_X7_0_14 (C : JC p s m args c cc nL own D cI A E) {idx : Nat} {v : Int32} (hz : narrow .boolean (.int v) = .int v) (hzf : fits .boolean (.int v) = true) (hl : Cond.fieldLink own idx "LightAsFarAsThePumpModel" "imaged" "Z" ∈ TB) (hdg : decode cc pc = .ok (.putfield idx, 3)) (kk : J p l e R s m args below meth c D (mW q cI) A nL Q (sI g 4 v) (pc + 3) lo st) : J p l e R s m args below meth c D (mW q cI) A nL Q g pc lo (.int v :: .ref (q 0) :: st) := J.put C 0 rfl rfl in_X7 tyX7 tyX7_ok nmX7 14 (by decide) hl rfl (ty := .boolean) (by decide +kernel) hz hzf (Nat.le_of_ble_eq_true rfl) rfl hdg kk
theorem gf_X7_0_15 (C : JC p s m args c cc nL own D cI A E) {idx : Nat} (hl : Cond.fieldLink own idx "LightAsFarAsThePumpModel" "old" "[I" ∈ TB) (hdg : decode cc pc = .ok (.getfield idx, 3)) (kk : J p l e R s m args below meth c D (mW q cI) A nL Q g (pc + 3) lo (.ref (q 11) :: st)) : J p l e R s m args below meth c D (mW q cI) A nL Q g pc lo (.ref (q 0) :: st) := J.get C 0 rfl rfl in_X7 15 (by decide) hl rfl hdg kk
theorem gf_X7_0_16 (C : JC p s m args c cc nL own D cI A E) {idx : Nat} (hl : Cond.fieldLink own idx "LightAsFarAsThePumpModel" "ahead" "[I" ∈ TB) (hdg : decode cc pc = .ok (.getfield idx, 3)) (kk : J p l e R s m args below meth c D (mW q cI) A nL Q g (pc + 3) lo (.ref (q 12) :: st)) : J p l e R s m args below meth c D (mW q cI) A nL Q g pc lo (.ref (q 0) :: st) := J.get C 0 rfl rfl in_X7 16 (by decide) hl rfl hdg kk
theorem gf_X7_0_17 (C : JC p s m args c cc nL own D cI A E) {idx : Nat} (hl : Cond.fieldLink own idx "LightAsFarAsThePumpModel" "going" "I" ∈ TB) (hdg : decode cc pc = .ok (.getfield idx, 3)) (kk : J p l e R s m args below meth c D (mW q cI) A nL Q g (pc + 3) lo (.int (g.1 5) :: st)) : J p l e R s m args below meth c D (mW q cI) A nL Q g pc lo (.ref (q 0) :: st) := J.get C 0 rfl rfl in_X7 17 (by decide) hl rfl hdg kk
theorem pf_X7_0_17 (C : JC p s m args c cc nL own D cI A E) {idx : Nat} {v : Int32} (hl : Cond.fieldLink own idx "LightAsFarAsThePumpModel" "going" "I" ∈ TB) (hdg : decode cc pc = .ok (.putfield idx, 3)) (kk : J p l e R s m args below meth c D (mW q cI) A nL Q (sI g 5 v) (pc + 3) lo st) : J p l e R s m args below meth c D (mW q cI) A nL Q g pc lo (.int v :: .ref (q 0) :: st) := J.put C 0 rfl rfl in_X7 tyX7 tyX7_ok nmX7 17 (by decide) hl rfl (ty := .int) (by decide +kernel) rfl rfl (Nat.le_of_ble_eq_true rfl) rfl hdg kk
theorem gf_X7_0_18 (C : JC p s m args c cc nL own D cI A E) {idx : Nat} (hl : Cond.fieldLink own idx "LightAsFarAsThePumpModel" "order" "[I" ∈ TB) (hdg : decode cc pc = .ok (.getfield idx, 3)) (kk : J p l e R s m args below meth c D (mW q cI) A nL Q g (pc + 3) lo (.ref (q 13) :: st)) : J p l e R s m args below meth c D (mW q cI) A nL Q g pc lo (.ref (q 0) :: st) := J.get C 0 rfl rfl in_X7 18 (by decide) hl rfl hdg kk
theorem gf_X7_0_19 (C : JC p s m args c cc nL own D cI A E) {idx : Nat} (hl : Cond.fieldLink own idx "LightAsFarAsThePumpModel" "lamps" "I" ∈ TB) (hdg : decode cc pc = .ok (.getfield idx, 3)) (kk : J p l e R s m args below meth c D (mW q cI) A nL Q g (pc + 3) lo (.int (g.1 6) :: st)) : J p l e R s m args below meth c D (mW q cI) A nL Q g pc lo (.ref (q 0) :: st) := J.get C 0 rfl rfl in_X7 19 (by decide) hl rfl hdg kk
theorem pf_X7_0_19 (C : JC p s m args c cc nL own D cI A E) {idx : Nat} {v : Int32} (hl : Cond.fieldLink own idx "LightAsFarAsThePumpModel" "lamps" "I" ∈ TB) (hdg : decode cc pc = .ok (.putfield idx, 3)) (kk : J p l e R s m args below meth c D (mW q cI) A nL Q (sI g 6 v) (pc + 3) lo st) : J p l e R s m args below meth c D (mW q cI) A nL Q g pc lo (.int v :: .ref (q 0) :: st) := J.put C 0 rfl rfl in_X7 tyX7 tyX7_ok nmX7 19 (by decide) hl rfl (ty := .int) (by decide +kernel) rfl rfl (Nat.le_of_ble_eq_true rfl) rfl hdg kk
theorem gf_X7_0_20 (C : JC p s m args c cc nL own D cI A E) {idx : Nat} (hl : Cond.fieldLink own idx "LightAsFarAsThePumpModel" "lampAt" "[I" ∈ TB) (hdg : decode cc pc = .ok (.getfield idx, 3)) (kk : J p l e R s m args below meth c D (mW q cI) A nL Q g (pc + 3) lo (.ref (q 14) :: st)) : J p l e R s m args below meth c D (mW q cI) A nL Q g pc lo (.ref (q 0) :: st) := J.get C 0 rfl rfl in_X7 20 (by decide) hl rfl hdg kk
theorem gf_X7_0_21 (C : JC p s m args c cc nL own D cI A E) {idx : Nat} (hl : Cond.fieldLink own idx "LightAsFarAsThePumpModel" "oil" "[I" ∈ TB) (hdg : decode cc pc = .ok (.getfield idx, 3)) (kk : J p l e R s m args below meth c D (mW q cI) A nL Q g (pc + 3) lo (.ref (q 15) :: st)) : J p l e R s m args below meth c D (mW q cI) A nL Q g pc lo (.ref (q 0) :: st) := J.get C 0 rfl rfl in_X7 21 (by decide) hl rfl hdg kk
theorem gf_X7_0_22 (C : JC p s m args c cc nL own D cI A E) {idx : Nat} (hl : Cond.fieldLink own idx "LightAsFarAsThePumpModel" "dark" "[I" ∈ TB) (hdg : decode cc pc = .ok (.getfield idx, 3)) (kk : J p l e R s m args below meth c D (mW q cI) A nL Q g (pc + 3) lo (.ref (q 16) :: st)) : J p l e R s m args below meth c D (mW q cI) A nL Q g pc lo (.ref (q 0) :: st) := J.get C 0 rfl rfl in_X7 22 (by decide) hl rfl hdg kk
theorem gf_X7_0_23 (C : JC p s m args c cc nL own D cI A E) {idx : Nat} (hl : Cond.fieldLink own idx "LightAsFarAsThePumpModel" "light" "[I" ∈ TB) (hdg : decode cc pc = .ok (.getfield idx, 3)) (kk : J p l e R s m args below meth c D (mW q cI) A nL Q g (pc + 3) lo (.ref (q 17) :: st)) : J p l e R s m args below meth c D (mW q cI) A nL Q g pc lo (.ref (q 0) :: st) := J.get C 0 rfl rfl in_X7 23 (by decide) hl rfl hdg kk
theorem gf_X7_0_24 (C : JC p s m args c cc nL own D cI A E) {idx : Nat} (hl : Cond.fieldLink own idx "LightAsFarAsThePumpModel" "stood" "[I" ∈ TB) (hdg : decode cc pc = .ok (.getfield idx, 3)) (kk : J p l e R s m args below meth c D (mW q cI) A nL Q g (pc + 3) lo (.ref (q 18) :: st)) : J p l e R s m args below meth c D (mW q cI) A nL Q g pc lo (.ref (q 0) :: st) := J.get C 0 rfl rfl in_X7 24 (by decide) hl rfl hdg kk
theorem gf_X7_0_25 (C : JC p s m args c cc nL own D cI A E) {idx : Nat} (hl : Cond.fieldLink own idx "LightAsFarAsThePumpModel" "had" "[I" ∈ TB) (hdg : decode cc pc = .ok (.getfield idx, 3)) (kk : J p l e R s m args below meth c D (mW q cI) A nL Q g (pc + 3) lo (.ref (q 19) :: st)) : J p l e R s m args below meth c D (mW q cI) A nL Q g pc lo (.ref (q 0) :: st) := J.get C 0 rfl rfl in_X7 25 (by decide) hl rfl hdg kk
theorem gf_X7_0_26 (C : JC p s m args c cc nL own D cI A E) {idx : Nat} (hl : Cond.fieldLink own idx "LightAsFarAsThePumpModel" "last" "I" ∈ TB) (hdg : decode cc pc = .ok (.getfield idx, 3)) (kk : J p l e R s m args below meth c D (mW q cI) A nL Q g (pc + 3) lo (.int (g.1 7) :: st)) : J p l e R s m args below meth c D (mW q cI) A nL Q g pc lo (.ref (q 0) :: st) := J.get C 0 rfl rfl in_X7 26 (by decide) hl rfl hdg kk
theorem pf_X7_0_26 (C : JC p s m args c cc nL own D cI A E) {idx : Nat} {v : Int32} (hl : Cond.fieldLink own idx "LightAsFarAsThePumpModel" "last" "I" ∈ TB) (hdg : decode cc pc = .ok (.putfield idx, 3)) (kk : J p l e R s m args below meth c D (mW q cI) A nL Q (sI g 7 v) (pc + 3) lo st) : J p l e R s m args below meth c D (mW q cI) A nL Q g pc lo (.int v :: .ref (q 0) :: st) := J.put C 0 rfl rfl in_X7 tyX7 tyX7_ok nmX7 26 (by decide) hl rfl (ty := .int) (by decide +kernel) rfl rfl (Nat.le_of_ble_eq_true rfl) rfl hdg kk
theorem gf_X7_0_27 (C : JC p s m args c cc nL own D cI A E) {idx : Nat} (hl : Cond.fieldLink own idx "LightAsFarAsThePumpModel" "ends" "[I" ∈ TB) (hdg : decode cc pc = .ok (.getfield idx, 3)) (kk : J p l e R s m args below meth c D (mW q cI) A nL Q g (pc + 3) lo (.ref (q 20) :: st)) : J p l e R s m args below meth c D (mW q cI) A nL Q g pc lo (.ref (q 0) :: st) := J.get C 0 rfl rfl in_X7 27 (by decide) hl rfl hdg kk
theorem gf_X7_0_28 (C : JC p s m args c cc nL own D cI A E) {idx : Nat} (hl : Cond.fieldLink own idx "LightAsFarAsThePumpModel" "nets" "[I" ∈ TB) (hdg : decode cc pc = .ok (.getfield idx, 3)) (kk : J p l e R s m args below meth c D (mW q cI) A nL Q g (pc + 3) lo (.ref (q 21) :: st)) : J p l e R s m args below meth c D (mW q cI) A nL Q g pc lo (.ref (q 0) :: st) := J.get C 0 rfl rfl in_X7 28 (by decide) hl rfl hdg kk
theorem gf_X7_0_29 (C : JC p s m args c cc nL own D cI A E) {idx : Nat} (hl : Cond.fieldLink own idx "LightAsFarAsThePumpModel" "best" "[I" ∈ TB) (hdg : decode cc pc = .ok (.getfield idx, 3)) (kk : J p l e R s m args below meth c D (mW q cI) A nL Q g (pc + 3) lo (.ref (q 22) :: st)) : J p l e R s m args below meth c D (mW q cI) A nL Q g pc lo (.ref (q 0) :: st) := J.get C 0 rfl rfl in_X7 29 (by decide) hl rfl hdg kk
theorem gf_X7_0_30 (C : JC p s m args c cc nL own D cI A E) {idx : Nat} (hl : Cond.fieldLink own idx "LightAsFarAsThePumpModel" "groups" "[I" ∈ TB) (hdg : decode cc pc = .ok (.getfield idx, 3)) (kk : J p l e R s m args below meth c D (mW q cI) A nL Q g (pc + 3) lo (.ref (q 23) :: st)) : J p l e R s m args below meth c D (mW q cI) A nL Q g pc lo (.ref (q 0) :: st) := J.get C 0 rfl rfl in_X7 30 (by decide) hl rfl hdg kk
end WROWS
end
section
/-! what never changes beside the cells; the words of a method's own pure meaning -/
def gset : Nat → Int32 := fun j => if j = 0 then 39 else if j = 1 then 200 else 9
def EC (z : Nat) : Et := fun A U H => va_Z "LightAsFarAsThePump$Alley" "GREATEST_SETTING" "[I" (.ref z) A U H ∧ va_T .int z 3 (fun j => .int (gset j)) A U H
theorem EC_ok (z : Nat) : EOK (EC z) := ⟨fun _ _ _ _ hv h => ⟨h.1.moved hv, h.2.moved hv⟩, fun _ _ _ _ h hk => ⟨h.1.kept hk, h.2.kept hk⟩, fun _ _ _ _ h hAB => ⟨h.1.narrow hAB, h.2.narrow hAB⟩⟩
section ENV
variable {p : Program} {l : Launch} {e : Env} {R : Room} {s : State} {m : MethodId} {args : Array Value} {below : List Frame} {meth : Method} {c : Code} {Q : State → Prop} {cc : ByteArray} {nL : Nat} {own : String} {D : va_G} {cI : ClassId} {wf : Sg → va_W} {A : Nat → Prop} {E : Et} {g : Sg} {pc z : Nat} {lo : List (Nat × Value)} {st : List Value}
theorem J.getsZ (C : JC p s m args c cc nL own D cI A (EC z)) {idx : Nat} (hl : Cond.fieldLink own idx "LightAsFarAsThePump$Alley" "GREATEST_SETTING" "[I" ∈ TB) (hdg : decode cc pc = .ok (.getstatic idx, 3)) (kk : J p l e R s m args below meth c D wf A nL Q g (pc + 3) lo (.ref z :: st)) : J p l e R s m args below meth c D wf A nL Q g pc lo st := fun H locs ls hP hD hS hl' => va_gets C.1 C.2.1 C.2.2.2.2.2.2.2.1.1 hS C.2.2.2.1 (C.2.2.2.2.1 _ hl) (fun _ h => h) hdg (kk H locs ls hP hD hS hl')
theorem J.tldZ (C : JC p s m args c cc nL own D cI A (EC z)) {i : Int32} (hin : vp_in i 3) (hdg : decode cc pc = .ok (.iaload, 1)) (kk : J p l e R s m args below meth c D wf A nL Q g (pc + 1) lo (.int (gset (ix i)) :: st)) : J p l e R s m args below meth c D wf A nL Q g pc lo (.int i :: .ref z :: st) := fun H locs ls hP hD hS hl' => va_ti C.1 C.2.1 C.2.2.2.2.2.2.2.1.2 hS hin rfl hdg (kk H locs ls hP hD hS hl')
theorem J.tlenZ (C : JC p s m args c cc nL own D cI A (EC z)) (hdg : decode cc pc = .ok (.arraylength, 1)) (kk : J p l e R s m args below meth c D wf A nL Q g (pc + 1) lo (.int (nI 3) :: st)) : J p l e R s m args below meth c D wf A nL Q g pc lo (.ref z :: st) := fun H locs ls hP hD hS hl' => va_tlen C.1 C.2.1 C.2.2.2.2.2.2.2.1.2 hS rfl hdg (kk H locs ls hP hD hS hl')
theorem J.tabIn (C : JC p s m args c cc nL own D cI A E) {dflt lo' hi : Int} {offs : Array Int} {len : Nat} {x : Int32} {off : Int} (v : Int32) (tgt : Nat) (hdg : decode cc pc = .ok (.tableswitch dflt lo' hi offs, len)) (hx : x = v) (h1 : ¬ v.toInt < lo') (h2 : ¬ hi < v.toInt) (ho : offs[(v.toInt - lo').toNat]? = some off) (ht : (pc : Int) + off = (tgt : Int)) (k : J p l e R s m args below meth c D wf A nL Q g tgt lo st) : J p l e R s m args below meth c D wf A nL Q g pc lo (.int x :: st) := fun H locs ls hP hD hS hl' => lv_tableIn C.1 C.2.1 hdg (by rw [hx]; exact h1) (by rw [hx]; exact h2) (by rw [hx]; exact ho) ht (k H locs ls hP hD hS hl')
theorem J.tabOut (C : JC p s m args c cc nL own D cI A E) {dflt lo' hi : Int} {offs : Array Int} {len : Nat} {x : Int32} (tgt : Nat) (hdg : decode cc pc = .ok (.tableswitch dflt lo' hi offs, len)) (h : x.toInt < lo' ∨ hi < x.toInt) (ht : (pc : Int) + dflt = (tgt : Int)) (k : J p l e R s m args below meth c D wf A nL Q g tgt lo st) : J p l e R s m args below meth c D wf A nL Q g pc lo (.int x :: st) := fun H locs ls hP hD hS hl' => lv_tableOut C.1 C.2.1 hdg h ht (k H locs ls hP hD hS hl')
theorem J.look (C : JC p s m args c cc nL own D cI A E) {dflt : Int} {ps : Array (Int × Int)} {len : Nat} {x : Int32} {off : Int} (tgt : Nat) (hdg : decode cc pc = .ok (.lookupswitch dflt ps, len)) (hp : (ps.toList.zip (ps.toList.drop 1)).all (fun (a, next) => a.1 < next.1) = true) (ho : Op.lookupswitch.offset ps.toList dflt x.toInt = off) (ht : (pc : Int) + off = (tgt : Int)) (k : J p l e R s m args below meth c D wf A nL Q g tgt lo st) : J p l e R s m args below meth c D wf A nL Q g pc lo (.int x :: st) := fun H locs ls hP hD hS hl' => lv_lookup C.1 C.2.1 hdg hp ho ht (k H locs ls hP hD hS hl')
theorem J.istore_nV (C : JC p s m args c cc nL own D cI A E) {k0 : Fin 4} {i : Nat} {x x' : Int32} (hdg : decode cc pc = .ok (.istore_n k0, 1)) (hi : (k0 : Nat) = i) (hn : i < nL) (hx : x = x') (k : J p l e R s m args below meth c D wf A nL Q g (pc + 1) (lset lo i (.int x')) st) : J p l e R s m args below meth c D wf A nL Q g pc lo (.int x :: st) := J.istore_n C hdg hi hn (hx ▸ k)
theorem J.istoreV (C : JC p s m args c cc nL own D cI A E) {i : Nat} {x x' : Int32} (hdg : decode cc pc = .ok (.istore i, 2)) (hn : i < nL) (hx : x = x') (k : J p l e R s m args below meth c D wf A nL Q g (pc + 2) (lset lo i (.int x')) st) : J p l e R s m args below meth c D wf A nL Q g pc lo (.int x :: st) := J.istore C hdg hn (hx ▸ k)
end ENV
def FU : Nat := 1000
def lt {α β : Type} (x : α) (k : α → Option β) : Option β := k x
theorem lt_ex {α β : Type} {x : α} {k : α → Option β} {r : β} (h : lt x k = some r) : ∃ y, x = y ∧ k y = some r := ⟨x, rfl, h⟩
def chk {β : Type} (i : Int32) (n : Nat) (k : Option β) : Option β := if i < 0 ∨ n ≤ ix i then none else k
theorem chk_ex {β : Type} {i : Int32} {n : Nat} {k : Option β} {r : β} (h : chk i n k = some r) : vp_in i n ∧ k = some r := by
  unfold chk at h
  by_cases c : i < 0 ∨ n ≤ ix i
  · rw [if_pos c] at h; cases h
  · rw [if_neg c] at h; exact ⟨c, h⟩
theorem vpl {i : Int32} {n : Nat} (h : decide (i < 0 ∨ n ≤ i.toNatClampNeg) = false) : vp_in i n := of_decide_eq_false h
def bI {β : Type} (o : Option (Int32 × Sg)) (k : Int32 → Sg → Option β) : Option β := o.bind (fun t => k t.1 t.2)
theorem bI_ex {β : Type} {o : Option (Int32 × Sg)} {k : Int32 → Sg → Option β} {r : β} (h : bI o k = some r) : ∃ (x : Int32) (g : Sg), o = some (x, g) ∧ k x g = some r := by
  unfold bI at h
  cases o with
  | none => cases h
  | some t => exact ⟨t.1, t.2, rfl, h⟩
def bV {β : Type} (o : Option Sg) (k : Sg → Option β) : Option β := o.bind k
theorem bV_ex {β : Type} {o : Option Sg} {k : Sg → Option β} {r : β} (h : bV o k = some r) : ∃ g : Sg, o = some g ∧ k g = some r := by
  unfold bV at h
  cases o with
  | none => cases h
  | some t => exact ⟨t, rfl, h⟩
theorem ite_t {β : Type} {c : Prop} [Decidable c] {a b : Option β} {r : β} (hc : c) (h : (if c then a else b) = some r) : a = some r := (if_pos hc).symm.trans h
theorem ite_f {β : Type} {c : Prop} [Decidable c] {a b : Option β} {r : β} (hc : ¬ c) (h : (if c then a else b) = some r) : b = some r := (if_neg hc).symm.trans h
def rz (v : Int32) (g : Sg) : Option (Int32 × Sg) := if v = 0 then some (v, g) else if v = 1 then some (v, g) else none
theorem rz_ex {v : Int32} {g : Sg} {r : Int32 × Sg} (h : rz v g = some r) : some (v, g) = some r ∧ narrow .boolean (.int v) = .int v := by
  unfold rz at h
  by_cases c : v = 0
  · rw [if_pos c] at h; exact ⟨h, by rw [c]; rfl⟩
  · rw [if_neg c] at h
    by_cases d : v = 1
    · rw [if_pos d] at h; exact ⟨h, by rw [d]; rfl⟩
    · rw [if_neg d] at h; cases h
theorem i_ne {x v : Int32} (n : Int) (hv : v.toInt = n) (h : ¬ x = v) : x.toInt ≠ n := fun e => h (Int32.toInt_inj.mp (e.trans hv.symm))
def lup0 {β : Type} (B : (Sg → Option β) → Sg → Option β) : Nat → Sg → Option β
  | 0 => fun _ => none
  | n + 1 => B (lup0 B n)
theorem lup0_ok {β : Type} {B : (Sg → Option β) → Sg → Option β} {r : β} {P : Sg → Prop} (h : ∀ self : Sg → Option β, (∀ (g : Sg), self  g = some r → P  g) → ∀ (g : Sg), B self  g = some r → P  g) : ∀ (n : Nat), ∀ (g : Sg), lup0 B n  g = some r → P  g
  | 0, _, h1 => nomatch h1
  | n + 1, g, h1 => h (lup0 B n) (lup0_ok h n)  g h1
def lup1 {β : Type} (B : (Int32 → Sg → Option β) → Int32 → Sg → Option β) : Nat → Int32 → Sg → Option β
  | 0 => fun _ _ => none
  | n + 1 => B (lup1 B n)
theorem lup1_ok {β : Type} {B : (Int32 → Sg → Option β) → Int32 → Sg → Option β} {r : β} {P : Int32 → Sg → Prop} (h : ∀ self : Int32 → Sg → Option β, (∀ (x0 : Int32) (g : Sg), self x0 g = some r → P x0 g) → ∀ (x0 : Int32) (g : Sg), B self x0 g = some r → P x0 g) : ∀ (n : Nat), ∀ (x0 : Int32) (g : Sg), lup1 B n x0 g = some r → P x0 g
  | 0, _, _, h1 => nomatch h1
  | n + 1, x0, g, h1 => h (lup1 B n) (lup1_ok h n) x0 g h1
def lup2 {β : Type} (B : (Int32 → Int32 → Sg → Option β) → Int32 → Int32 → Sg → Option β) : Nat → Int32 → Int32 → Sg → Option β
  | 0 => fun _ _ _ => none
  | n + 1 => B (lup2 B n)
theorem lup2_ok {β : Type} {B : (Int32 → Int32 → Sg → Option β) → Int32 → Int32 → Sg → Option β} {r : β} {P : Int32 → Int32 → Sg → Prop} (h : ∀ self : Int32 → Int32 → Sg → Option β, (∀ (x0 x1 : Int32) (g : Sg), self x0 x1 g = some r → P x0 x1 g) → ∀ (x0 x1 : Int32) (g : Sg), B self x0 x1 g = some r → P x0 x1 g) : ∀ (n : Nat), ∀ (x0 x1 : Int32) (g : Sg), lup2 B n x0 x1 g = some r → P x0 x1 g
  | 0, _, _, _, h1 => nomatch h1
  | n + 1, x0, x1, g, h1 => h (lup2 B n) (lup2_ok h n) x0 x1 g h1
def lup3 {β : Type} (B : (Int32 → Int32 → Int32 → Sg → Option β) → Int32 → Int32 → Int32 → Sg → Option β) : Nat → Int32 → Int32 → Int32 → Sg → Option β
  | 0 => fun _ _ _ _ => none
  | n + 1 => B (lup3 B n)
theorem lup3_ok {β : Type} {B : (Int32 → Int32 → Int32 → Sg → Option β) → Int32 → Int32 → Int32 → Sg → Option β} {r : β} {P : Int32 → Int32 → Int32 → Sg → Prop} (h : ∀ self : Int32 → Int32 → Int32 → Sg → Option β, (∀ (x0 x1 x2 : Int32) (g : Sg), self x0 x1 x2 g = some r → P x0 x1 x2 g) → ∀ (x0 x1 x2 : Int32) (g : Sg), B self x0 x1 x2 g = some r → P x0 x1 x2 g) : ∀ (n : Nat), ∀ (x0 x1 x2 : Int32) (g : Sg), lup3 B n x0 x1 x2 g = some r → P x0 x1 x2 g
  | 0, _, _, _, _, h1 => nomatch h1
  | n + 1, x0, x1, x2, g, h1 => h (lup3 B n) (lup3_ok h n) x0 x1 x2 g h1
def lup4 {β : Type} (B : (Int32 → Int32 → Int32 → Int32 → Sg → Option β) → Int32 → Int32 → Int32 → Int32 → Sg → Option β) : Nat → Int32 → Int32 → Int32 → Int32 → Sg → Option β
  | 0 => fun _ _ _ _ _ => none
  | n + 1 => B (lup4 B n)
theorem lup4_ok {β : Type} {B : (Int32 → Int32 → Int32 → Int32 → Sg → Option β) → Int32 → Int32 → Int32 → Int32 → Sg → Option β} {r : β} {P : Int32 → Int32 → Int32 → Int32 → Sg → Prop} (h : ∀ self : Int32 → Int32 → Int32 → Int32 → Sg → Option β, (∀ (x0 x1 x2 x3 : Int32) (g : Sg), self x0 x1 x2 x3 g = some r → P x0 x1 x2 x3 g) → ∀ (x0 x1 x2 x3 : Int32) (g : Sg), B self x0 x1 x2 x3 g = some r → P x0 x1 x2 x3 g) : ∀ (n : Nat), ∀ (x0 x1 x2 x3 : Int32) (g : Sg), lup4 B n x0 x1 x2 x3 g = some r → P x0 x1 x2 x3 g
  | 0, _, _, _, _, _, h1 => nomatch h1
  | n + 1, x0, x1, x2, x3, g, h1 => h (lup4 B n) (lup4_ok h n) x0 x1 x2 x3 g h1
def lup5 {β : Type} (B : (Int32 → Int32 → Int32 → Int32 → Int32 → Sg → Option β) → Int32 → Int32 → Int32 → Int32 → Int32 → Sg → Option β) : Nat → Int32 → Int32 → Int32 → Int32 → Int32 → Sg → Option β
  | 0 => fun _ _ _ _ _ _ => none
  | n + 1 => B (lup5 B n)
theorem lup5_ok {β : Type} {B : (Int32 → Int32 → Int32 → Int32 → Int32 → Sg → Option β) → Int32 → Int32 → Int32 → Int32 → Int32 → Sg → Option β} {r : β} {P : Int32 → Int32 → Int32 → Int32 → Int32 → Sg → Prop} (h : ∀ self : Int32 → Int32 → Int32 → Int32 → Int32 → Sg → Option β, (∀ (x0 x1 x2 x3 x4 : Int32) (g : Sg), self x0 x1 x2 x3 x4 g = some r → P x0 x1 x2 x3 x4 g) → ∀ (x0 x1 x2 x3 x4 : Int32) (g : Sg), B self x0 x1 x2 x3 x4 g = some r → P x0 x1 x2 x3 x4 g) : ∀ (n : Nat), ∀ (x0 x1 x2 x3 x4 : Int32) (g : Sg), lup5 B n x0 x1 x2 x3 x4 g = some r → P x0 x1 x2 x3 x4 g
  | 0, _, _, _, _, _, _, h1 => nomatch h1
  | n + 1, x0, x1, x2, x3, x4, g, h1 => h (lup5 B n) (lup5_ok h n) x0 x1 x2 x3 x4 g h1
def lup6 {β : Type} (B : (Int32 → Int32 → Int32 → Int32 → Int32 → Int32 → Sg → Option β) → Int32 → Int32 → Int32 → Int32 → Int32 → Int32 → Sg → Option β) : Nat → Int32 → Int32 → Int32 → Int32 → Int32 → Int32 → Sg → Option β
  | 0 => fun _ _ _ _ _ _ _ => none
  | n + 1 => B (lup6 B n)
theorem lup6_ok {β : Type} {B : (Int32 → Int32 → Int32 → Int32 → Int32 → Int32 → Sg → Option β) → Int32 → Int32 → Int32 → Int32 → Int32 → Int32 → Sg → Option β} {r : β} {P : Int32 → Int32 → Int32 → Int32 → Int32 → Int32 → Sg → Prop} (h : ∀ self : Int32 → Int32 → Int32 → Int32 → Int32 → Int32 → Sg → Option β, (∀ (x0 x1 x2 x3 x4 x5 : Int32) (g : Sg), self x0 x1 x2 x3 x4 x5 g = some r → P x0 x1 x2 x3 x4 x5 g) → ∀ (x0 x1 x2 x3 x4 x5 : Int32) (g : Sg), B self x0 x1 x2 x3 x4 x5 g = some r → P x0 x1 x2 x3 x4 x5 g) : ∀ (n : Nat), ∀ (x0 x1 x2 x3 x4 x5 : Int32) (g : Sg), lup6 B n x0 x1 x2 x3 x4 x5 g = some r → P x0 x1 x2 x3 x4 x5 g
  | 0, _, _, _, _, _, _, _, h1 => nomatch h1
  | n + 1, x0, x1, x2, x3, x4, x5, g, h1 => h (lup6 B n) (lup6_ok h n) x0 x1 x2 x3 x4 x5 g h1
def lup7 {β : Type} (B : (Int32 → Int32 → Int32 → Int32 → Int32 → Int32 → Int32 → Sg → Option β) → Int32 → Int32 → Int32 → Int32 → Int32 → Int32 → Int32 → Sg → Option β) : Nat → Int32 → Int32 → Int32 → Int32 → Int32 → Int32 → Int32 → Sg → Option β
  | 0 => fun _ _ _ _ _ _ _ _ => none
  | n + 1 => B (lup7 B n)
theorem lup7_ok {β : Type} {B : (Int32 → Int32 → Int32 → Int32 → Int32 → Int32 → Int32 → Sg → Option β) → Int32 → Int32 → Int32 → Int32 → Int32 → Int32 → Int32 → Sg → Option β} {r : β} {P : Int32 → Int32 → Int32 → Int32 → Int32 → Int32 → Int32 → Sg → Prop} (h : ∀ self : Int32 → Int32 → Int32 → Int32 → Int32 → Int32 → Int32 → Sg → Option β, (∀ (x0 x1 x2 x3 x4 x5 x6 : Int32) (g : Sg), self x0 x1 x2 x3 x4 x5 x6 g = some r → P x0 x1 x2 x3 x4 x5 x6 g) → ∀ (x0 x1 x2 x3 x4 x5 x6 : Int32) (g : Sg), B self x0 x1 x2 x3 x4 x5 x6 g = some r → P x0 x1 x2 x3 x4 x5 x6 g) : ∀ (n : Nat), ∀ (x0 x1 x2 x3 x4 x5 x6 : Int32) (g : Sg), lup7 B n x0 x1 x2 x3 x4 x5 x6 g = some r → P x0 x1 x2 x3 x4 x5 x6 g
  | 0, _, _, _, _, _, _, _, _, h1 => nomatch h1
  | n + 1, x0, x1, x2, x3, x4, x5, x6, g, h1 => h (lup7 B n) (lup7_ok h n) x0 x1 x2 x3 x4 x5 x6 g h1
end
section
section CALLROWS
variable {p : Program} {l : Launch} {e : Env} {R : Room} {s : State} {m : MethodId} {args : Array Value} {below : List Frame} {meth : Method} {c : Code} {Q : State → Prop} {cc : ByteArray} {nL : Nat} {own : String} {D : va_G} {cI : ClassId} {wf : Sg → va_W} {A : Nat → Prop} {E : Et} {g g1 : Sg} {pc : Nat} {lo : List (Nat × Value)} {rest : List Value} {y : MethodName} {cc1 : ByteArray} {maxL fr lc idx a : Nat} {ret : Option FieldType} {x : Int32}
theorem J.callS0i (C : JC p s m args c cc nL own D cI A E) (hM : CTi l E D cI wf y cc1 maxL ret fr lc [] g (x, g1)) (hlk : LkS y cc1 maxL ret 0) (h1 : Cond.methodLink own idx y ∈ TB) (hR : fr + 1 ≤ R.frames ∧ 8 + (maxL + 11) + lc ≤ R.locals) (hc : (rest.map fun v => v.category).sum ≤ 8) (hdg : decode cc pc = .ok (.invokestatic idx, 3)) (k : J p l e R s m args below meth c D wf A nL Q g1 (pc + 3) lo (.int x :: rest)) : J p l e R s m args below meth c D wf A nL Q g pc lo (rest) := J.callSi C hM hlk h1 hR rfl rfl hc hdg k
theorem J.callS0v (C : JC p s m args c cc nL own D cI A E) (hM : CTv l E D cI wf y cc1 maxL fr lc [] g g1) (hlk : LkS y cc1 maxL none 0) (h1 : Cond.methodLink own idx y ∈ TB) (hR : fr + 1 ≤ R.frames ∧ 8 + (maxL + 11) + lc ≤ R.locals) (hc : (rest.map fun v => v.category).sum ≤ 8) (hdg : decode cc pc = .ok (.invokestatic idx, 3)) (k : J p l e R s m args below meth c D wf A nL Q g1 (pc + 3) lo rest) : J p l e R s m args below meth c D wf A nL Q g pc lo (rest) := J.callSv C hM hlk h1 hR rfl rfl hc hdg k
theorem J.callV0i (C : JC p s m args c cc nL own D cI A E) (hM : CTi l E D cI wf y cc1 maxL ret fr lc (.ref a :: []) g (x, g1)) (hlk : LkV y cc1 maxL ret 0) (h1 : Cond.methodLink own idx y ∈ TB) (ho : isObj wf a y.cls) (hR : fr + 1 ≤ R.frames ∧ 8 + (maxL + 11) + lc ≤ R.locals) (hc : (rest.map fun v => v.category).sum ≤ 8) (hdg : decode cc pc = .ok (.invokevirtual idx, 3)) (k : J p l e R s m args below meth c D wf A nL Q g1 (pc + 3) lo (.int x :: rest)) : J p l e R s m args below meth c D wf A nL Q g pc lo (.ref a :: rest) := J.callVi C hM hlk h1 ho hR rfl rfl hc hdg k
theorem J.callV0v (C : JC p s m args c cc nL own D cI A E) (hM : CTv l E D cI wf y cc1 maxL fr lc (.ref a :: []) g g1) (hlk : LkV y cc1 maxL none 0) (h1 : Cond.methodLink own idx y ∈ TB) (ho : isObj wf a y.cls) (hR : fr + 1 ≤ R.frames ∧ 8 + (maxL + 11) + lc ≤ R.locals) (hc : (rest.map fun v => v.category).sum ≤ 8) (hdg : decode cc pc = .ok (.invokevirtual idx, 3)) (k : J p l e R s m args below meth c D wf A nL Q g1 (pc + 3) lo rest) : J p l e R s m args below meth c D wf A nL Q g pc lo (.ref a :: rest) := J.callVv C hM hlk h1 ho hR rfl rfl hc hdg k
theorem J.callS1i (C : JC p s m args c cc nL own D cI A E) {v1 : Value} (hM : CTi l E D cI wf y cc1 maxL ret fr lc [v1] g (x, g1)) (hlk : LkS y cc1 maxL ret 1) (h1 : Cond.methodLink own idx y ∈ TB) (hR : fr + 1 ≤ R.frames ∧ 8 + (maxL + 11) + lc ≤ R.locals) (hc : (rest.map fun v => v.category).sum ≤ 8) (hdg : decode cc pc = .ok (.invokestatic idx, 3)) (k : J p l e R s m args below meth c D wf A nL Q g1 (pc + 3) lo (.int x :: rest)) : J p l e R s m args below meth c D wf A nL Q g pc lo (v1 :: rest) := J.callSi C hM hlk h1 hR rfl rfl hc hdg k
theorem J.callS1v (C : JC p s m args c cc nL own D cI A E) {v1 : Value} (hM : CTv l E D cI wf y cc1 maxL fr lc [v1] g g1) (hlk : LkS y cc1 maxL none 1) (h1 : Cond.methodLink own idx y ∈ TB) (hR : fr + 1 ≤ R.frames ∧ 8 + (maxL + 11) + lc ≤ R.locals) (hc : (rest.map fun v => v.category).sum ≤ 8) (hdg : decode cc pc = .ok (.invokestatic idx, 3)) (k : J p l e R s m args below meth c D wf A nL Q g1 (pc + 3) lo rest) : J p l e R s m args below meth c D wf A nL Q g pc lo (v1 :: rest) := J.callSv C hM hlk h1 hR rfl rfl hc hdg k
theorem J.callV1i (C : JC p s m args c cc nL own D cI A E) {v1 : Value} (hM : CTi l E D cI wf y cc1 maxL ret fr lc (.ref a :: [v1]) g (x, g1)) (hlk : LkV y cc1 maxL ret 1) (h1 : Cond.methodLink own idx y ∈ TB) (ho : isObj wf a y.cls) (hR : fr + 1 ≤ R.frames ∧ 8 + (maxL + 11) + lc ≤ R.locals) (hc : (rest.map fun v => v.category).sum ≤ 8) (hdg : decode cc pc = .ok (.invokevirtual idx, 3)) (k : J p l e R s m args below meth c D wf A nL Q g1 (pc + 3) lo (.int x :: rest)) : J p l e R s m args below meth c D wf A nL Q g pc lo (v1 :: .ref a :: rest) := J.callVi C hM hlk h1 ho hR rfl rfl hc hdg k
theorem J.callV1v (C : JC p s m args c cc nL own D cI A E) {v1 : Value} (hM : CTv l E D cI wf y cc1 maxL fr lc (.ref a :: [v1]) g g1) (hlk : LkV y cc1 maxL none 1) (h1 : Cond.methodLink own idx y ∈ TB) (ho : isObj wf a y.cls) (hR : fr + 1 ≤ R.frames ∧ 8 + (maxL + 11) + lc ≤ R.locals) (hc : (rest.map fun v => v.category).sum ≤ 8) (hdg : decode cc pc = .ok (.invokevirtual idx, 3)) (k : J p l e R s m args below meth c D wf A nL Q g1 (pc + 3) lo rest) : J p l e R s m args below meth c D wf A nL Q g pc lo (v1 :: .ref a :: rest) := J.callVv C hM hlk h1 ho hR rfl rfl hc hdg k
theorem J.callS2i (C : JC p s m args c cc nL own D cI A E) {v1 v2 : Value} (hM : CTi l E D cI wf y cc1 maxL ret fr lc [v1, v2] g (x, g1)) (hlk : LkS y cc1 maxL ret 2) (h1 : Cond.methodLink own idx y ∈ TB) (hR : fr + 1 ≤ R.frames ∧ 8 + (maxL + 11) + lc ≤ R.locals) (hc : (rest.map fun v => v.category).sum ≤ 8) (hdg : decode cc pc = .ok (.invokestatic idx, 3)) (k : J p l e R s m args below meth c D wf A nL Q g1 (pc + 3) lo (.int x :: rest)) : J p l e R s m args below meth c D wf A nL Q g pc lo (v2 :: v1 :: rest) := J.callSi C hM hlk h1 hR rfl rfl hc hdg k
theorem J.callS2v (C : JC p s m args c cc nL own D cI A E) {v1 v2 : Value} (hM : CTv l E D cI wf y cc1 maxL fr lc [v1, v2] g g1) (hlk : LkS y cc1 maxL none 2) (h1 : Cond.methodLink own idx y ∈ TB) (hR : fr + 1 ≤ R.frames ∧ 8 + (maxL + 11) + lc ≤ R.locals) (hc : (rest.map fun v => v.category).sum ≤ 8) (hdg : decode cc pc = .ok (.invokestatic idx, 3)) (k : J p l e R s m args below meth c D wf A nL Q g1 (pc + 3) lo rest) : J p l e R s m args below meth c D wf A nL Q g pc lo (v2 :: v1 :: rest) := J.callSv C hM hlk h1 hR rfl rfl hc hdg k
theorem J.callV2i (C : JC p s m args c cc nL own D cI A E) {v1 v2 : Value} (hM : CTi l E D cI wf y cc1 maxL ret fr lc (.ref a :: [v1, v2]) g (x, g1)) (hlk : LkV y cc1 maxL ret 2) (h1 : Cond.methodLink own idx y ∈ TB) (ho : isObj wf a y.cls) (hR : fr + 1 ≤ R.frames ∧ 8 + (maxL + 11) + lc ≤ R.locals) (hc : (rest.map fun v => v.category).sum ≤ 8) (hdg : decode cc pc = .ok (.invokevirtual idx, 3)) (k : J p l e R s m args below meth c D wf A nL Q g1 (pc + 3) lo (.int x :: rest)) : J p l e R s m args below meth c D wf A nL Q g pc lo (v2 :: v1 :: .ref a :: rest) := J.callVi C hM hlk h1 ho hR rfl rfl hc hdg k
theorem J.callV2v (C : JC p s m args c cc nL own D cI A E) {v1 v2 : Value} (hM : CTv l E D cI wf y cc1 maxL fr lc (.ref a :: [v1, v2]) g g1) (hlk : LkV y cc1 maxL none 2) (h1 : Cond.methodLink own idx y ∈ TB) (ho : isObj wf a y.cls) (hR : fr + 1 ≤ R.frames ∧ 8 + (maxL + 11) + lc ≤ R.locals) (hc : (rest.map fun v => v.category).sum ≤ 8) (hdg : decode cc pc = .ok (.invokevirtual idx, 3)) (k : J p l e R s m args below meth c D wf A nL Q g1 (pc + 3) lo rest) : J p l e R s m args below meth c D wf A nL Q g pc lo (v2 :: v1 :: .ref a :: rest) := J.callVv C hM hlk h1 ho hR rfl rfl hc hdg k
theorem J.callS3i (C : JC p s m args c cc nL own D cI A E) {v1 v2 v3 : Value} (hM : CTi l E D cI wf y cc1 maxL ret fr lc [v1, v2, v3] g (x, g1)) (hlk : LkS y cc1 maxL ret 3) (h1 : Cond.methodLink own idx y ∈ TB) (hR : fr + 1 ≤ R.frames ∧ 8 + (maxL + 11) + lc ≤ R.locals) (hc : (rest.map fun v => v.category).sum ≤ 8) (hdg : decode cc pc = .ok (.invokestatic idx, 3)) (k : J p l e R s m args below meth c D wf A nL Q g1 (pc + 3) lo (.int x :: rest)) : J p l e R s m args below meth c D wf A nL Q g pc lo (v3 :: v2 :: v1 :: rest) := J.callSi C hM hlk h1 hR rfl rfl hc hdg k
theorem J.callS3v (C : JC p s m args c cc nL own D cI A E) {v1 v2 v3 : Value} (hM : CTv l E D cI wf y cc1 maxL fr lc [v1, v2, v3] g g1) (hlk : LkS y cc1 maxL none 3) (h1 : Cond.methodLink own idx y ∈ TB) (hR : fr + 1 ≤ R.frames ∧ 8 + (maxL + 11) + lc ≤ R.locals) (hc : (rest.map fun v => v.category).sum ≤ 8) (hdg : decode cc pc = .ok (.invokestatic idx, 3)) (k : J p l e R s m args below meth c D wf A nL Q g1 (pc + 3) lo rest) : J p l e R s m args below meth c D wf A nL Q g pc lo (v3 :: v2 :: v1 :: rest) := J.callSv C hM hlk h1 hR rfl rfl hc hdg k
theorem J.callV3i (C : JC p s m args c cc nL own D cI A E) {v1 v2 v3 : Value} (hM : CTi l E D cI wf y cc1 maxL ret fr lc (.ref a :: [v1, v2, v3]) g (x, g1)) (hlk : LkV y cc1 maxL ret 3) (h1 : Cond.methodLink own idx y ∈ TB) (ho : isObj wf a y.cls) (hR : fr + 1 ≤ R.frames ∧ 8 + (maxL + 11) + lc ≤ R.locals) (hc : (rest.map fun v => v.category).sum ≤ 8) (hdg : decode cc pc = .ok (.invokevirtual idx, 3)) (k : J p l e R s m args below meth c D wf A nL Q g1 (pc + 3) lo (.int x :: rest)) : J p l e R s m args below meth c D wf A nL Q g pc lo (v3 :: v2 :: v1 :: .ref a :: rest) := J.callVi C hM hlk h1 ho hR rfl rfl hc hdg k
theorem J.callV3v (C : JC p s m args c cc nL own D cI A E) {v1 v2 v3 : Value} (hM : CTv l E D cI wf y cc1 maxL fr lc (.ref a :: [v1, v2, v3]) g g1) (hlk : LkV y cc1 maxL none 3) (h1 : Cond.methodLink own idx y ∈ TB) (ho : isObj wf a y.cls) (hR : fr + 1 ≤ R.frames ∧ 8 + (maxL + 11) + lc ≤ R.locals) (hc : (rest.map fun v => v.category).sum ≤ 8) (hdg : decode cc pc = .ok (.invokevirtual idx, 3)) (k : J p l e R s m args below meth c D wf A nL Q g1 (pc + 3) lo rest) : J p l e R s m args below meth c D wf A nL Q g pc lo (v3 :: v2 :: v1 :: .ref a :: rest) := J.callVv C hM hlk h1 ho hR rfl rfl hc hdg k
theorem J.callS4i (C : JC p s m args c cc nL own D cI A E) {v1 v2 v3 v4 : Value} (hM : CTi l E D cI wf y cc1 maxL ret fr lc [v1, v2, v3, v4] g (x, g1)) (hlk : LkS y cc1 maxL ret 4) (h1 : Cond.methodLink own idx y ∈ TB) (hR : fr + 1 ≤ R.frames ∧ 8 + (maxL + 11) + lc ≤ R.locals) (hc : (rest.map fun v => v.category).sum ≤ 8) (hdg : decode cc pc = .ok (.invokestatic idx, 3)) (k : J p l e R s m args below meth c D wf A nL Q g1 (pc + 3) lo (.int x :: rest)) : J p l e R s m args below meth c D wf A nL Q g pc lo (v4 :: v3 :: v2 :: v1 :: rest) := J.callSi C hM hlk h1 hR rfl rfl hc hdg k
theorem J.callS4v (C : JC p s m args c cc nL own D cI A E) {v1 v2 v3 v4 : Value} (hM : CTv l E D cI wf y cc1 maxL fr lc [v1, v2, v3, v4] g g1) (hlk : LkS y cc1 maxL none 4) (h1 : Cond.methodLink own idx y ∈ TB) (hR : fr + 1 ≤ R.frames ∧ 8 + (maxL + 11) + lc ≤ R.locals) (hc : (rest.map fun v => v.category).sum ≤ 8) (hdg : decode cc pc = .ok (.invokestatic idx, 3)) (k : J p l e R s m args below meth c D wf A nL Q g1 (pc + 3) lo rest) : J p l e R s m args below meth c D wf A nL Q g pc lo (v4 :: v3 :: v2 :: v1 :: rest) := J.callSv C hM hlk h1 hR rfl rfl hc hdg k
theorem J.callV4i (C : JC p s m args c cc nL own D cI A E) {v1 v2 v3 v4 : Value} (hM : CTi l E D cI wf y cc1 maxL ret fr lc (.ref a :: [v1, v2, v3, v4]) g (x, g1)) (hlk : LkV y cc1 maxL ret 4) (h1 : Cond.methodLink own idx y ∈ TB) (ho : isObj wf a y.cls) (hR : fr + 1 ≤ R.frames ∧ 8 + (maxL + 11) + lc ≤ R.locals) (hc : (rest.map fun v => v.category).sum ≤ 8) (hdg : decode cc pc = .ok (.invokevirtual idx, 3)) (k : J p l e R s m args below meth c D wf A nL Q g1 (pc + 3) lo (.int x :: rest)) : J p l e R s m args below meth c D wf A nL Q g pc lo (v4 :: v3 :: v2 :: v1 :: .ref a :: rest) := J.callVi C hM hlk h1 ho hR rfl rfl hc hdg k
theorem J.callV4v (C : JC p s m args c cc nL own D cI A E) {v1 v2 v3 v4 : Value} (hM : CTv l E D cI wf y cc1 maxL fr lc (.ref a :: [v1, v2, v3, v4]) g g1) (hlk : LkV y cc1 maxL none 4) (h1 : Cond.methodLink own idx y ∈ TB) (ho : isObj wf a y.cls) (hR : fr + 1 ≤ R.frames ∧ 8 + (maxL + 11) + lc ≤ R.locals) (hc : (rest.map fun v => v.category).sum ≤ 8) (hdg : decode cc pc = .ok (.invokevirtual idx, 3)) (k : J p l e R s m args below meth c D wf A nL Q g1 (pc + 3) lo rest) : J p l e R s m args below meth c D wf A nL Q g pc lo (v4 :: v3 :: v2 :: v1 :: .ref a :: rest) := J.callVv C hM hlk h1 ho hR rfl rfl hc hdg k
theorem J.callS5i (C : JC p s m args c cc nL own D cI A E) {v1 v2 v3 v4 v5 : Value} (hM : CTi l E D cI wf y cc1 maxL ret fr lc [v1, v2, v3, v4, v5] g (x, g1)) (hlk : LkS y cc1 maxL ret 5) (h1 : Cond.methodLink own idx y ∈ TB) (hR : fr + 1 ≤ R.frames ∧ 8 + (maxL + 11) + lc ≤ R.locals) (hc : (rest.map fun v => v.category).sum ≤ 8) (hdg : decode cc pc = .ok (.invokestatic idx, 3)) (k : J p l e R s m args below meth c D wf A nL Q g1 (pc + 3) lo (.int x :: rest)) : J p l e R s m args below meth c D wf A nL Q g pc lo (v5 :: v4 :: v3 :: v2 :: v1 :: rest) := J.callSi C hM hlk h1 hR rfl rfl hc hdg k
theorem J.callS5v (C : JC p s m args c cc nL own D cI A E) {v1 v2 v3 v4 v5 : Value} (hM : CTv l E D cI wf y cc1 maxL fr lc [v1, v2, v3, v4, v5] g g1) (hlk : LkS y cc1 maxL none 5) (h1 : Cond.methodLink own idx y ∈ TB) (hR : fr + 1 ≤ R.frames ∧ 8 + (maxL + 11) + lc ≤ R.locals) (hc : (rest.map fun v => v.category).sum ≤ 8) (hdg : decode cc pc = .ok (.invokestatic idx, 3)) (k : J p l e R s m args below meth c D wf A nL Q g1 (pc + 3) lo rest) : J p l e R s m args below meth c D wf A nL Q g pc lo (v5 :: v4 :: v3 :: v2 :: v1 :: rest) := J.callSv C hM hlk h1 hR rfl rfl hc hdg k
theorem J.callV5i (C : JC p s m args c cc nL own D cI A E) {v1 v2 v3 v4 v5 : Value} (hM : CTi l E D cI wf y cc1 maxL ret fr lc (.ref a :: [v1, v2, v3, v4, v5]) g (x, g1)) (hlk : LkV y cc1 maxL ret 5) (h1 : Cond.methodLink own idx y ∈ TB) (ho : isObj wf a y.cls) (hR : fr + 1 ≤ R.frames ∧ 8 + (maxL + 11) + lc ≤ R.locals) (hc : (rest.map fun v => v.category).sum ≤ 8) (hdg : decode cc pc = .ok (.invokevirtual idx, 3)) (k : J p l e R s m args below meth c D wf A nL Q g1 (pc + 3) lo (.int x :: rest)) : J p l e R s m args below meth c D wf A nL Q g pc lo (v5 :: v4 :: v3 :: v2 :: v1 :: .ref a :: rest) := J.callVi C hM hlk h1 ho hR rfl rfl hc hdg k
theorem J.callV5v (C : JC p s m args c cc nL own D cI A E) {v1 v2 v3 v4 v5 : Value} (hM : CTv l E D cI wf y cc1 maxL fr lc (.ref a :: [v1, v2, v3, v4, v5]) g g1) (hlk : LkV y cc1 maxL none 5) (h1 : Cond.methodLink own idx y ∈ TB) (ho : isObj wf a y.cls) (hR : fr + 1 ≤ R.frames ∧ 8 + (maxL + 11) + lc ≤ R.locals) (hc : (rest.map fun v => v.category).sum ≤ 8) (hdg : decode cc pc = .ok (.invokevirtual idx, 3)) (k : J p l e R s m args below meth c D wf A nL Q g1 (pc + 3) lo rest) : J p l e R s m args below meth c D wf A nL Q g pc lo (v5 :: v4 :: v3 :: v2 :: v1 :: .ref a :: rest) := J.callVv C hM hlk h1 ho hR rfl rfl hc hdg k
theorem J.case (C : JC p s m args c cc nL own D cI A E) (v : Int32) (kt : x = v → J p l e R s m args below meth c D wf A nL Q g pc lo (.int x :: rest)) (kf : ¬ x = v → J p l e R s m args below meth c D wf A nL Q g pc lo (.int x :: rest)) : J p l e R s m args below meth c D wf A nL Q g pc lo (.int x :: rest) := (Decidable.em (x = v)).elim kt kf
end CALLROWS
theorem CTi.of2 {l : Launch} {E : Et} {D : va_G} {cI : ClassId} {wf : Sg → va_W} {cc : ByteArray} {g : Sg} {y : MethodName} {maxL fr lc : Nat} {rt : FieldType} {av : List Value} {r : Int32 × Sg} (hy : plainName y.cls = true) (hEK : EOK E) (hlen : (lg_sl av).length ≤ maxL) (hcat : (lv_args 0 av).all (fun q => Nat.beq q.2.category 1) = true)
    (body : ∀ (p : Program) (e : Env) (s : State) (m : MethodId) (args : Array Value) (below : List Frame) (meth : Method) (c : Code) (A : Nat → Prop) (Q : State → Prop), JC p s m args c cc maxL y.cls D cI A E → (∀ {pc : Nat} {lo : List (Nat × Value)} {v : Int32} {g' : Sg}, decode cc pc = .ok (.ireturn, 1) → some (v, g') = some r → narrow rt (.int v) = .int v → J p l e (RM fr lc) s m args below meth c D wf A maxL Q g' pc lo [.int v]) → J p l e (RM fr lc) s m args below meth c D wf A maxL Q g 0 (lv_args 0 av) []) : CTi l E D cI wf y cc maxL (some rt) fr lc av g r := CTi.of hy hEK hlen (fun q hq => Nat.eq_of_beq_eq_true (List.all_eq_true.mp hcat q hq)) body
theorem CTv.of2 {l : Launch} {E : Et} {D : va_G} {cI : ClassId} {wf : Sg → va_W} {cc : ByteArray} {g : Sg} {y : MethodName} {maxL fr lc : Nat} {av : List Value} {r : Sg} (hy : plainName y.cls = true) (hEK : EOK E) (hlen : (lg_sl av).length ≤ maxL) (hcat : (lv_args 0 av).all (fun q => Nat.beq q.2.category 1) = true)
    (body : ∀ (p : Program) (e : Env) (s : State) (m : MethodId) (args : Array Value) (below : List Frame) (meth : Method) (c : Code) (A : Nat → Prop) (Q : State → Prop), JC p s m args c cc maxL y.cls D cI A E → (∀ {pc : Nat} {lo : List (Nat × Value)} {g' : Sg}, decode cc pc = .ok (.return_, 1) → some g' = some r → J p l e (RM fr lc) s m args below meth c D wf A maxL Q g' pc lo []) → J p l e (RM fr lc) s m args below meth c D wf A maxL Q g 0 (lv_args 0 av) []) : CTv l E D cI wf y cc maxL fr lc av g r := CTv.of hy hEK hlen (fun q hq => Nat.eq_of_beq_eq_true (List.all_eq_true.mp hcat q hq)) body
theorem bp_m9 : (Int8.ofInt (-9)).toInt32 = (-9) := by decide
theorem bp_m6 : (Int8.ofInt (-6)).toInt32 = (-6) := by decide
theorem bp_m4 : (Int8.ofInt (-4)).toInt32 = (-4) := by decide
theorem bp_m3 : (Int8.ofInt (-3)).toInt32 = (-3) := by decide
theorem bp_m2 : (Int8.ofInt (-2)).toInt32 = (-2) := by decide
theorem bp_6 : (Int8.ofInt 6).toInt32 = 6 := by decide
theorem bp_7 : (Int8.ofInt 7).toInt32 = 7 := by decide
theorem bp_8 : (Int8.ofInt 8).toInt32 = 8 := by decide
theorem bp_9 : (Int8.ofInt 9).toInt32 = 9 := by decide
theorem bp_10 : (Int8.ofInt 10).toInt32 = 10 := by decide
theorem bp_11 : (Int8.ofInt 11).toInt32 = 11 := by decide
theorem bp_12 : (Int8.ofInt 12).toInt32 = 12 := by decide
theorem bp_14 : (Int8.ofInt 14).toInt32 = 14 := by decide
theorem bp_16 : (Int8.ofInt 16).toInt32 = 16 := by decide
theorem bp_20 : (Int8.ofInt 20).toInt32 = 20 := by decide
theorem bp_21 : (Int8.ofInt 21).toInt32 = 21 := by decide
theorem bp_28 : (Int8.ofInt 28).toInt32 = 28 := by decide
theorem bp_31 : (Int8.ofInt 31).toInt32 = 31 := by decide
theorem bp_35 : (Int8.ofInt 35).toInt32 = 35 := by decide
theorem bp_38 : (Int8.ofInt 38).toInt32 = 38 := by decide
theorem bp_39 : (Int8.ofInt 39).toInt32 = 39 := by decide
theorem bp_40 : (Int8.ofInt 40).toInt32 = 40 := by decide
theorem bp_48 : (Int8.ofInt 48).toInt32 = 48 := by decide
theorem bp_57 : (Int8.ofInt 57).toInt32 = 57 := by decide
theorem bp_59 : (Int8.ofInt 59).toInt32 = 59 := by decide
theorem bp_96 : (Int8.ofInt 96).toInt32 = 96 := by decide
theorem bp_99 : (Int8.ofInt 99).toInt32 = 99 := by decide
theorem bp_100 : (Int8.ofInt 100).toInt32 = 100 := by decide
theorem bp_103 : (Int8.ofInt 103).toInt32 = 103 := by decide
theorem bp_104 : (Int8.ofInt 104).toInt32 = 104 := by decide
theorem bp_111 : (Int8.ofInt 111).toInt32 = 111 := by decide
theorem bp_112 : (Int8.ofInt 112).toInt32 = 112 := by decide
theorem bp_120 : (Int8.ofInt 120).toInt32 = 120 := by decide
theorem ic_m1 : Int32.ofInt (-1) = (-1) := by decide
theorem ic_0 : Int32.ofInt 0 = 0 := by decide
theorem ic_1 : Int32.ofInt 1 = 1 := by decide
theorem ic_2 : Int32.ofInt 2 = 2 := by decide
theorem ic_3 : Int32.ofInt 3 = 3 := by decide
theorem ic_4 : Int32.ofInt 4 = 4 := by decide
theorem ic_5 : Int32.ofInt 5 = 5 := by decide
theorem sp_m2000 : (Int16.ofInt (-2000)).toInt32 = (-2000) := by decide
theorem sp_m1000 : (Int16.ofInt (-1000)).toInt32 = (-1000) := by decide
theorem sp_128 : (Int16.ofInt 128).toInt32 = 128 := by decide
theorem sp_199 : (Int16.ofInt 199).toInt32 = 199 := by decide
theorem sp_200 : (Int16.ofInt 200).toInt32 = 200 := by decide
theorem sp_255 : (Int16.ofInt 255).toInt32 = 255 := by decide
theorem sp_256 : (Int16.ofInt 256).toInt32 = 256 := by decide
theorem sp_720 : (Int16.ofInt 720).toInt32 = 720 := by decide
end
section
def M_X4_at (k1 n1 : Nat) (x1 : Int32) (g : Sg) : Option (Int32 × Sg) := (if x1 < 0 then some (0, g) else (if (nI n1) ≤ x1 then some (0, g) else chk x1 n1 (some (rd g k1 x1, g))))
set_option maxRecDepth 100000 in
set_option maxHeartbeats 4000000 in
theorem C_X4_at {l : Launch} {D : va_G} {q : Nat → Nat} {cI : ClassId} {z : Nat} {k1 n1 : Nat} (hk1 : isArr (cW q cI) cI (q k1) k1 n1) {x1 : Int32} {g : Sg} {r : Int32 × Sg} (h : M_X4_at k1 n1 x1 g = some r) : CTi l (EC z) D cI (cW q cI) yX4_at cX4_at 2 (some .int) 0 0 [.ref (q k1), .int x1] g r := by
  refine CTi.of2 (by decide) (EC_ok z) (Nat.le_of_ble_eq_true rfl) rfl (fun p e s m args below meth c A Q C hret => ?_)
  have hM := h
  unfold M_X4_at at hM
  refine J.iload_n (pc := 0) C dX4_at_0 rfl rfl ?_
  refine J.if_lt (pc := 1) C 16 dX4_at_1 (by decide) (fun hc => ?_) (fun hc => ?_)
  · have hM := ite_t hc hM
    refine J.iconst (pc := 16) C 0 dX4_at_16 ic_0 ?_
    exact hret dX4_at_17 hM rfl
  · have hM := ite_f hc hM
    refine J.iload_n (pc := 4) C dX4_at_4 rfl rfl ?_
    refine J.aload_n (pc := 5) C dX4_at_5 rfl rfl ?_
    refine J.alen (pc := 6) C hk1 dX4_at_6 ?_
    refine J.icmp_ge (pc := 7) C 16 dX4_at_7 (by decide) (fun hc => ?_) (fun hc => ?_)
    · have hM := ite_t hc hM
      refine J.iconst (pc := 16) C 0 dX4_at_16 ic_0 ?_
      exact hret dX4_at_17 hM rfl
    · have hM := ite_f hc hM
      refine J.aload_n (pc := 10) C dX4_at_10 rfl rfl ?_
      refine J.iload_n (pc := 11) C dX4_at_11 rfl rfl ?_
      obtain ⟨hv, hM⟩ := chk_ex hM
      refine J.iald (pc := 12) C hk1 hv dX4_at_12 ?_
      refine J.goto (pc := 13) C 17 dX4_at_13 (by decide) ?_
      exact hret dX4_at_17 hM rfl
def rat (g : Sg) (k n : Nat) (i : Int32) : Int32 := if i < 0 then 0 else if nI n ≤ i then 0 else rd g k i
theorem vp_of {i : Int32} {n : Nat} (hn : n < 2 ^ 31) (h : ¬ i < 0) (h2 : ¬ nI n ≤ i) : vp_in i n := by
  rcases pk_ix i hn with h3 | h3 | ⟨j, h3, h4⟩
  · exact absurd h3 h
  · exact absurd h3 h2
  · rw [h4]; exact vp_in_nI h3 hn
theorem chk_ok {β : Type} {i : Int32} {n : Nat} {k : Option β} (h : vp_in i n) : chk i n k = k := if_neg h
theorem E_X4_at {k1 n1 : Nat} (hn : n1 < 2 ^ 31) (x1 : Int32) (g : Sg) : M_X4_at k1 n1 x1 g = some (rat g k1 n1 x1, g) := by
  unfold M_X4_at rat
  by_cases h : x1 < 0
  · rw [if_pos h, if_pos h]
  · rw [if_neg h, if_neg h]
    by_cases h2 : nI n1 ≤ x1
    · rw [if_pos h2, if_pos h2]
    · rw [if_neg h2, if_neg h2]; exact chk_ok (vp_of hn h h2)
theorem K_X4_at {l : Launch} {D : va_G} {q : Nat → Nat} {cI : ClassId} {z : Nat} {k1 n1 : Nat} (hk1 : isArr (cW q cI) cI (q k1) k1 n1) (x1 : Int32) (g : Sg) : CTi l (EC z) D cI (cW q cI) yX4_at cX4_at 2 (some .int) 0 0 [.ref (q k1), .int x1] g (rat g k1 n1 x1, g) := C_X4_at hk1 (E_X4_at hk1.1 x1 g)
def ratZ (i : Int32) : Int32 := if i < 0 then 0 else if nI 3 ≤ i then 0 else gset (ix i)
set_option maxRecDepth 100000 in
theorem K_X4_atZ {l : Launch} {D : va_G} {q : Nat → Nat} {cI : ClassId} {z : Nat} (x1 : Int32) (g : Sg) : CTi l (EC z) D cI (cW q cI) yX4_at cX4_at 2 (some .int) 0 0 [.ref z, .int x1] g (ratZ x1, g) := by
  refine CTi.of2 (by decide) (EC_ok z) (Nat.le_of_ble_eq_true rfl) rfl (fun p e s m args below meth c A Q C hret => ?_)
  refine J.iload_n (pc := 0) C dX4_at_0 rfl rfl ?_
  refine J.if_lt (pc := 1) C 16 dX4_at_1 (by decide) (fun hc => ?_) (fun hc => ?_)
  · refine J.iconst (pc := 16) C 0 dX4_at_16 ic_0 ?_
    exact hret dX4_at_17 (by unfold ratZ; rw [if_pos hc]) rfl
  · refine J.iload_n (pc := 4) C dX4_at_4 rfl rfl ?_
    refine J.aload_n (pc := 5) C dX4_at_5 rfl rfl ?_
    refine J.tlenZ (pc := 6) C dX4_at_6 ?_
    refine J.icmp_ge (pc := 7) C 16 dX4_at_7 (by decide) (fun hc2 => ?_) (fun hc2 => ?_)
    · refine J.iconst (pc := 16) C 0 dX4_at_16 ic_0 ?_
      exact hret dX4_at_17 (by unfold ratZ; rw [if_neg hc, if_pos hc2]) rfl
    · refine J.aload_n (pc := 10) C dX4_at_10 rfl rfl ?_
      refine J.iload_n (pc := 11) C dX4_at_11 rfl rfl ?_
      refine J.tldZ (pc := 12) C (vp_of (by decide) hc hc2) dX4_at_12 ?_
      refine J.goto (pc := 13) C 17 dX4_at_13 (by decide) ?_
      exact hret dX4_at_17 (by unfold ratZ; rw [if_neg hc, if_neg hc2]) rfl
def M_X4_put (k1 n1 : Nat) (x1 x2 : Int32) (g : Sg) : Option Sg := (if x1 < 0 then some g else (if (nI n1) ≤ x1 then some g else chk x1 n1 (lt (wr g k1 x1 x2) (fun g_1 => some g_1))))
set_option maxRecDepth 100000 in
set_option maxHeartbeats 4000000 in
theorem C_X4_put {l : Launch} {D : va_G} {q : Nat → Nat} {cI : ClassId} {z : Nat} {k1 n1 : Nat} (hk1 : isArr (cW q cI) cI (q k1) k1 n1) {x1 x2 : Int32} {g : Sg} {r : Sg} (h : M_X4_put k1 n1 x1 x2 g = some r) : CTv l (EC z) D cI (cW q cI) yX4_put cX4_put 3 0 0 [.ref (q k1), .int x1, .int x2] g r := by
  refine CTv.of2 (by decide) (EC_ok z) (Nat.le_of_ble_eq_true rfl) rfl (fun p e s m args below meth c A Q C hret => ?_)
  have hM := h
  unfold M_X4_put at hM
  refine J.iload_n (pc := 0) C dX4_put_0 rfl rfl ?_
  refine J.if_lt (pc := 1) C 14 dX4_put_1 (by decide) (fun hc => ?_) (fun hc => ?_)
  · have hM := ite_t hc hM
    exact hret dX4_put_14 hM
  · have hM := ite_f hc hM
    refine J.iload_n (pc := 4) C dX4_put_4 rfl rfl ?_
    refine J.aload_n (pc := 5) C dX4_put_5 rfl rfl ?_
    refine J.alen (pc := 6) C hk1 dX4_put_6 ?_
    refine J.icmp_ge (pc := 7) C 14 dX4_put_7 (by decide) (fun hc => ?_) (fun hc => ?_)
    · have hM := ite_t hc hM
      exact hret dX4_put_14 hM
    · have hM := ite_f hc hM
      refine J.aload_n (pc := 10) C dX4_put_10 rfl rfl ?_
      refine J.iload_n (pc := 11) C dX4_put_11 rfl rfl ?_
      refine J.iload_n (pc := 12) C dX4_put_12 rfl rfl ?_
      obtain ⟨hv, hM⟩ := chk_ex hM
      refine J.iast (pc := 13) C hk1 hv dX4_put_13 ?_
      obtain ⟨_, ea, hM⟩ := lt_ex hM
      refine J.cong C ea ?_
      exact hret dX4_put_14 hM
def rput (g : Sg) (k n : Nat) (i x : Int32) : Sg := if i < 0 then g else if nI n ≤ i then g else wr g k i x
theorem E_X4_put {k1 n1 : Nat} (hn : n1 < 2 ^ 31) (x1 x2 : Int32) (g : Sg) : M_X4_put k1 n1 x1 x2 g = some (rput g k1 n1 x1 x2) := by
  unfold M_X4_put rput
  by_cases h : x1 < 0
  · rw [if_pos h, if_pos h]
  · rw [if_neg h, if_neg h]
    by_cases h2 : nI n1 ≤ x1
    · rw [if_pos h2, if_pos h2]
    · rw [if_neg h2, if_neg h2]; exact chk_ok (vp_of hn h h2)
theorem K_X4_put {l : Launch} {D : va_G} {q : Nat → Nat} {cI : ClassId} {z : Nat} {k1 n1 : Nat} (hk1 : isArr (cW q cI) cI (q k1) k1 n1) (x1 x2 : Int32) (g : Sg) : CTv l (EC z) D cI (cW q cI) yX4_put cX4_put 3 0 0 [.ref (q k1), .int x1, .int x2] g (rput g k1 n1 x1 x2) := C_X4_put hk1 (E_X4_put hk1.1 x1 x2 g)
def B_X4_copy_2 (k1 n1 : Nat) (k2 n2 : Nat) (kb2 : Int32 → Sg → Option Sg) (x2 : Int32) (g : Sg) : Option Sg := (if (nI n1) ≤ x2 then some g else (if (nI n2) ≤ x2 then some g else chk x2 n1 (chk x2 n2 (lt (wr g k2 x2 (rd g k1 x2)) (fun g_1 => kb2 (x2 + 1) g_1)))))
def M_X4_copy (k1 n1 : Nat) (k2 n2 : Nat) (g : Sg) : Option Sg := lup1 (B_X4_copy_2 k1 n1 k2 n2 ) FU 0 g
set_option maxRecDepth 100000 in
set_option maxHeartbeats 4000000 in
theorem C_X4_copy {l : Launch} {D : va_G} {q : Nat → Nat} {cI : ClassId} {z : Nat} {k1 n1 : Nat} {k2 n2 : Nat} (hk1 : isArr (cW q cI) cI (q k1) k1 n1) (hk2 : isArr (cW q cI) cI (q k2) k2 n2) {g : Sg} {r : Sg} (h : M_X4_copy k1 n1 k2 n2 g = some r) : CTv l (EC z) D cI (cW q cI) yX4_copy cX4_copy 3 0 0 [.ref (q k1), .ref (q k2)] g r := by
  refine CTv.of2 (by decide) (EC_ok z) (Nat.le_of_ble_eq_true rfl) rfl (fun p e s m args below meth c A Q C hret => ?_)
  have jb2 : ∀ (kb2 : Int32 → Sg → Option Sg) (hkb2 : ∀ (x2 : Int32) (g : Sg), kb2 x2 g = some r → J p l e (RM 0 0) s m args below meth c D (cW q cI) A 3 Q g 2 [(0, .ref (q k1)), (1, .ref (q k2)), (2, .int x2)] []) (x2 : Int32) (g : Sg), B_X4_copy_2 k1 n1 k2 n2 kb2 x2 g = some r → J p l e (RM 0 0) s m args below meth c D (cW q cI) A 3 Q g 2 [(0, .ref (q k1)), (1, .ref (q k2)), (2, .int x2)] [] := by
    intro kb2 hkb2 x2 g hM
    unfold B_X4_copy_2 at hM
    refine J.iload_n (pc := 2) C dX4_copy_2 rfl rfl ?_
    refine J.aload_n (pc := 3) C dX4_copy_3 rfl rfl ?_
    refine J.alen (pc := 4) C hk1 dX4_copy_4 ?_
    refine J.icmp_ge (pc := 5) C 26 dX4_copy_5 (by decide) (fun hc => ?_) (fun hc => ?_)
    · have hM := ite_t hc hM
      exact hret dX4_copy_26 hM
    · have hM := ite_f hc hM
      refine J.iload_n (pc := 8) C dX4_copy_8 rfl rfl ?_
      refine J.aload_n (pc := 9) C dX4_copy_9 rfl rfl ?_
      refine J.alen (pc := 10) C hk2 dX4_copy_10 ?_
      refine J.icmp_ge (pc := 11) C 26 dX4_copy_11 (by decide) (fun hc => ?_) (fun hc => ?_)
      · have hM := ite_t hc hM
        exact hret dX4_copy_26 hM
      · have hM := ite_f hc hM
        refine J.aload_n (pc := 14) C dX4_copy_14 rfl rfl ?_
        refine J.iload_n (pc := 15) C dX4_copy_15 rfl rfl ?_
        refine J.aload_n (pc := 16) C dX4_copy_16 rfl rfl ?_
        refine J.iload_n (pc := 17) C dX4_copy_17 rfl rfl ?_
        obtain ⟨hv, hM⟩ := chk_ex hM
        refine J.iald (pc := 18) C hk1 hv dX4_copy_18 ?_
        obtain ⟨hv, hM⟩ := chk_ex hM
        refine J.iast (pc := 19) C hk2 hv dX4_copy_19 ?_
        obtain ⟨_, ea, hM⟩ := lt_ex hM
        refine J.cong C ea ?_
        refine J.iinc (pc := 20) C 1 dX4_copy_20 ic_1 rfl (by decide) ?_
        refine J.goto (pc := 23) C 2 dX4_copy_23 (by decide) ?_
        refine J.sub C [0, 1, 2] rfl ?_
        exact hkb2 _ _ hM
  have jl2 : ∀ (x2 : Int32) (g : Sg), lup1 (B_X4_copy_2 k1 n1 k2 n2) FU x2 g = some r → J p l e (RM 0 0) s m args below meth c D (cW q cI) A 3 Q g 2 [(0, .ref (q k1)), (1, .ref (q k2)), (2, .int x2)] [] := 
    lup1_ok (P := fun x2 g => J p l e (RM 0 0) s m args below meth c D (cW q cI) A 3 Q g 2 [(0, .ref (q k1)), (1, .ref (q k2)), (2, .int x2)] []) (fun self hself => jb2 self hself) FU
  have hM := h
  unfold M_X4_copy at hM
  refine J.iconst (pc := 0) C 0 dX4_copy_0 ic_0 ?_
  refine J.istore_n (pc := 1) C dX4_copy_1 rfl (by decide) ?_
  refine J.sub C [0, 1, 2] rfl ?_
  exact jl2 _ _ hM
def rcpI (g : Sg) (k1 k2 i n : Nat) : Sg := sF g k2 (fun j => if i ≤ j ∧ j < n then g.2 k1 j else g.2 k2 j)
def rcp (g : Sg) (k1 k2 n : Nat) : Sg := rcpI g k1 k2 0 n
theorem rcp_step (g : Sg) (k1 k2 : Nat) {i n : Nat} (hi : i < n) (hn : n < 2 ^ 31) : rcpI (wr g k2 (nI i) (rd g k1 (nI i))) k1 k2 (i + 1) n = rcpI g k1 k2 i n := by
  have hc : ix (nI i) = i := nI_clamp (by omega)
  unfold rcpI wr rd sF upd
  rw [hc]
  refine Prod.ext rfl ?_
  funext k j
  by_cases h : k = k2
  · subst h
    by_cases h1 : k1 = k
    · subst h1
      by_cases h2 : j = i
      · subst h2
        simp
      · simp [h2]
    · have h1' : ¬ k1 = k := h1
      by_cases h2 : j = i
      · subst h2
        simp [h1', hi]
      · have h3 : (i + 1 ≤ j ∧ j < n) ↔ (i ≤ j ∧ j < n) := by omega
        simp [h1', h2, h3]
  · simp [h]
theorem rcp_end (g : Sg) (k1 k2 n : Nat) : rcpI g k1 k2 n n = g := by
  unfold rcpI sF
  refine Prod.ext rfl ?_
  funext k j
  by_cases h : k = k2
  · subst h
    have h3 : ¬ (n ≤ j ∧ j < n) := by omega
    simp [h3]
  · simp [h]
theorem copy_loop (k1 k2 n : Nat) (hn : n < 2 ^ 31) : ∀ (d i m : Nat) (g : Sg), i + d = n → d < m → lup1 (B_X4_copy_2 k1 n k2 n) m (nI i) g = some (rcpI g k1 k2 i n) := by
  intro d
  induction d with
  | zero =>
    intro i m g hi hm
    obtain ⟨m, rfl⟩ : ∃ t, m = t + 1 := ⟨m - 1, by omega⟩
    show B_X4_copy_2 k1 n k2 n (lup1 (B_X4_copy_2 k1 n k2 n) m) (nI i) g = _
    unfold B_X4_copy_2
    have e : i = n := by omega
    subst e
    rw [if_pos (nI_le (Nat.le_refl i) hn), rcp_end]
  | succ d ih =>
    intro i m g hi hm
    obtain ⟨m, rfl⟩ : ∃ t, m = t + 1 := ⟨m - 1, by omega⟩
    show B_X4_copy_2 k1 n k2 n (lup1 (B_X4_copy_2 k1 n k2 n) m) (nI i) g = _
    have ih2 := fun g' => ih (i + 1) m g' (by omega) (by omega)
    generalize lup1 (B_X4_copy_2 k1 n k2 n) m = self at ih2 ⊢
    unfold B_X4_copy_2
    have hin : vp_in (nI i) n := vp_in_nI (by omega) hn
    have h1 : ¬ nI n ≤ nI i := nI_ge (by omega) hn
    rw [if_neg h1, if_neg h1, chk_ok hin, chk_ok hin]
    show self (nI i + 1) _ = _
    rw [nI_1, ih2, rcp_step g k1 k2 (by omega) hn]
theorem E_X4_copy {k1 n1 : Nat} (k2 : Nat) (hn : n1 < 1000) (g : Sg) : M_X4_copy k1 n1 k2 n1 g = some (rcp g k1 k2 n1) := by
  unfold M_X4_copy
  have h := copy_loop k1 k2 n1 (by omega) n1 0 FU g (by omega) hn
  rw [nI_0] at h
  exact h
theorem K_X4_copy {l : Launch} {D : va_G} {q : Nat → Nat} {cI : ClassId} {z : Nat} {k1 n1 k2 : Nat} (hk1 : isArr (cW q cI) cI (q k1) k1 n1) (hk2 : isArr (cW q cI) cI (q k2) k2 n1) (g : Sg) (hn : n1 < 1000 := by decide) : CTv l (EC z) D cI (cW q cI) yX4_copy cX4_copy 3 0 0 [.ref (q k1), .ref (q k2)] g (rcp g k1 k2 n1) := C_X4_copy hk1 hk2 (E_X4_copy k2 hn g)
def M_X4_exchange (k1 n1 : Nat) (x1 x2 : Int32) (g : Sg) : Option Sg := lt (rat g k1 n1 x1) (fun x3_1 => lt (rput g k1 n1 x1 (rat g k1 n1 x2)) (fun g_2 => lt (rput g_2 k1 n1 x2 x3_1) (fun g_3 => some g_3)))
set_option maxRecDepth 100000 in
set_option maxHeartbeats 4000000 in
theorem C_X4_exchange {l : Launch} {D : va_G} {q : Nat → Nat} {cI : ClassId} {z : Nat} {k1 n1 : Nat} (hk1 : isArr (cW q cI) cI (q k1) k1 n1) {x1 x2 : Int32} {g : Sg} {r : Sg} (h : M_X4_exchange k1 n1 x1 x2 g = some r) : CTv l (EC z) D cI (cW q cI) yX4_exchange cX4_exchange 4 1 22 [.ref (q k1), .int x1, .int x2] g r := by
  refine CTv.of2 (by decide) (EC_ok z) (Nat.le_of_ble_eq_true rfl) rfl (fun p e s m args below meth c A Q C hret => ?_)
  have hM := h
  unfold M_X4_exchange at hM
  refine J.aload_n (pc := 0) C dX4_exchange_0 rfl rfl ?_
  refine J.iload_n (pc := 1) C dX4_exchange_1 rfl rfl ?_
  refine J.callS2i (pc := 2) C (K_X4_at hk1 _ _) lk_X4_at tm_X4_7 ⟨Nat.le_of_ble_eq_true rfl, Nat.le_of_ble_eq_true rfl⟩ (Nat.le_of_ble_eq_true rfl) dX4_exchange_2 ?_
  obtain ⟨_, ea, hM⟩ := lt_ex hM
  refine J.istore_nV (pc := 5) C dX4_exchange_5 rfl (by decide) ea ?_
  refine J.aload_n (pc := 6) C dX4_exchange_6 rfl rfl ?_
  refine J.iload_n (pc := 7) C dX4_exchange_7 rfl rfl ?_
  refine J.aload_n (pc := 8) C dX4_exchange_8 rfl rfl ?_
  refine J.iload_n (pc := 9) C dX4_exchange_9 rfl rfl ?_
  refine J.callS2i (pc := 10) C (K_X4_at hk1 _ _) lk_X4_at tm_X4_7 ⟨Nat.le_of_ble_eq_true rfl, Nat.le_of_ble_eq_true rfl⟩ (Nat.le_of_ble_eq_true rfl) dX4_exchange_10 ?_
  refine J.callS3v (pc := 13) C (K_X4_put hk1 _ _ _) lk_X4_put tm_X4_13 ⟨Nat.le_of_ble_eq_true rfl, Nat.le_of_ble_eq_true rfl⟩ (Nat.le_of_ble_eq_true rfl) dX4_exchange_13 ?_
  obtain ⟨_, ea, hM⟩ := lt_ex hM
  refine J.cong C ea ?_
  refine J.aload_n (pc := 16) C dX4_exchange_16 rfl rfl ?_
  refine J.iload_n (pc := 17) C dX4_exchange_17 rfl rfl ?_
  refine J.iload_n (pc := 18) C dX4_exchange_18 rfl rfl ?_
  refine J.callS3v (pc := 19) C (K_X4_put hk1 _ _ _) lk_X4_put tm_X4_13 ⟨Nat.le_of_ble_eq_true rfl, Nat.le_of_ble_eq_true rfl⟩ (Nat.le_of_ble_eq_true rfl) dX4_exchange_19 ?_
  obtain ⟨_, ea, hM⟩ := lt_ex hM
  refine J.cong C ea ?_
  exact hret dX4_exchange_22 hM
def U_X4_exchange (k1 n1 : Nat) (x1 x2 : Int32) (g : Sg) : Sg := let x3_1 := (rat g k1 n1 x1); let g_2 := (rput g k1 n1 x1 (rat g k1 n1 x2)); let g_3 := (rput g_2 k1 n1 x2 x3_1); g_3
theorem E_X4_exchange (k1 n1 : Nat) (x1 x2 : Int32) (g : Sg) : M_X4_exchange k1 n1 x1 x2 g = some (U_X4_exchange k1 n1 x1 x2 g) := by
  unfold M_X4_exchange U_X4_exchange
  first | rfl | ((try dsimp only [lt]); (repeat' split) <;> rfl)
theorem K_X4_exchange {l : Launch} {D : va_G} {q : Nat → Nat} {cI : ClassId} {z : Nat} {k1 n1 : Nat} (hk1 : isArr (cW q cI) cI (q k1) k1 n1) (x1 x2 : Int32) (g : Sg) : CTv l (EC z) D cI (cW q cI) yX4_exchange cX4_exchange 4 1 22 [.ref (q k1), .int x1, .int x2] g (U_X4_exchange k1 n1 x1 x2 g) := C_X4_exchange hk1 (E_X4_exchange k1 n1 x1 x2 g)
end
section
def M_X0_pump (a : Nat) (g : Sg) : Option (Int32 × Sg) := some (rat g (a + 1) 3 0, g)
set_option maxRecDepth 100000 in
set_option maxHeartbeats 4000000 in
theorem C_X0_pump {l : Launch} {D : va_G} {q : Nat → Nat} {cI : ClassId} {z : Nat} {a : Nat} (ha : isAl a) {g : Sg} {r : Int32 × Sg} (h : M_X0_pump a g = some r) : CTi l (EC z) D cI (cW q cI) yX0_pump cX0_pump 1 (some .int) 1 21 [.ref (q a)] g r := by
  refine CTi.of2 (by decide) (EC_ok z) (Nat.le_of_ble_eq_true rfl) rfl (fun p e s m args below meth c A Q C hret => ?_)
  have hM := h
  unfold M_X0_pump at hM
  refine J.aload_n (pc := 0) C dX0_pump_0 rfl rfl ?_
  refine gf_X0_0 (pc := 1) ha C tf_X0_11 dX0_pump_1 ?_
  refine J.iconst (pc := 4) C 0 dX0_pump_4 ic_0 ?_
  refine J.callS2i (pc := 5) C (K_X4_at (ia_al1 q cI ha) _ _) lk_X4_at tm_X0_47 ⟨Nat.le_of_ble_eq_true rfl, Nat.le_of_ble_eq_true rfl⟩ (Nat.le_of_ble_eq_true rfl) dX0_pump_5 ?_
  exact hret dX0_pump_8 hM rfl
def V_X0_pump (a : Nat) (g : Sg) : Int32 := rat g (a + 1) 3 0
theorem E_X0_pump (a : Nat) (g : Sg) : M_X0_pump a g = some (V_X0_pump a g, g) := by
  unfold M_X0_pump V_X0_pump
  first | rfl | ((try dsimp only [lt]); (repeat' split) <;> rfl)
theorem K_X0_pump {l : Launch} {D : va_G} {q : Nat → Nat} {cI : ClassId} {z : Nat} {a : Nat} (ha : isAl a) (g : Sg) : CTi l (EC z) D cI (cW q cI) yX0_pump cX0_pump 1 (some .int) 1 21 [.ref (q a)] g (V_X0_pump a g, g) := C_X0_pump ha (E_X0_pump a g)
def M_X0_oil (a : Nat) (g : Sg) : Option (Int32 × Sg) := some (rat g (a + 1) 3 1, g)
set_option maxRecDepth 100000 in
set_option maxHeartbeats 4000000 in
theorem C_X0_oil {l : Launch} {D : va_G} {q : Nat → Nat} {cI : ClassId} {z : Nat} {a : Nat} (ha : isAl a) {g : Sg} {r : Int32 × Sg} (h : M_X0_oil a g = some r) : CTi l (EC z) D cI (cW q cI) yX0_oil cX0_oil 1 (some .int) 1 21 [.ref (q a)] g r := by
  refine CTi.of2 (by decide) (EC_ok z) (Nat.le_of_ble_eq_true rfl) rfl (fun p e s m args below meth c A Q C hret => ?_)
  have hM := h
  unfold M_X0_oil at hM
  refine J.aload_n (pc := 0) C dX0_oil_0 rfl rfl ?_
  refine gf_X0_0 (pc := 1) ha C tf_X0_11 dX0_oil_1 ?_
  refine J.iconst (pc := 4) C 1 dX0_oil_4 ic_1 ?_
  refine J.callS2i (pc := 5) C (K_X4_at (ia_al1 q cI ha) _ _) lk_X4_at tm_X0_47 ⟨Nat.le_of_ble_eq_true rfl, Nat.le_of_ble_eq_true rfl⟩ (Nat.le_of_ble_eq_true rfl) dX0_oil_5 ?_
  exact hret dX0_oil_8 hM rfl
def V_X0_oil (a : Nat) (g : Sg) : Int32 := rat g (a + 1) 3 1
theorem E_X0_oil (a : Nat) (g : Sg) : M_X0_oil a g = some (V_X0_oil a g, g) := by
  unfold M_X0_oil V_X0_oil
  first | rfl | ((try dsimp only [lt]); (repeat' split) <;> rfl)
theorem K_X0_oil {l : Launch} {D : va_G} {q : Nat → Nat} {cI : ClassId} {z : Nat} {a : Nat} (ha : isAl a) (g : Sg) : CTi l (EC z) D cI (cW q cI) yX0_oil cX0_oil 1 (some .int) 1 21 [.ref (q a)] g (V_X0_oil a g, g) := C_X0_oil ha (E_X0_oil a g)
def M_X0_dark (a : Nat) (g : Sg) : Option (Int32 × Sg) := some (rat g (a + 1) 3 2, g)
set_option maxRecDepth 100000 in
set_option maxHeartbeats 4000000 in
theorem C_X0_dark {l : Launch} {D : va_G} {q : Nat → Nat} {cI : ClassId} {z : Nat} {a : Nat} (ha : isAl a) {g : Sg} {r : Int32 × Sg} (h : M_X0_dark a g = some r) : CTi l (EC z) D cI (cW q cI) yX0_dark cX0_dark 1 (some .int) 1 21 [.ref (q a)] g r := by
  refine CTi.of2 (by decide) (EC_ok z) (Nat.le_of_ble_eq_true rfl) rfl (fun p e s m args below meth c A Q C hret => ?_)
  have hM := h
  unfold M_X0_dark at hM
  refine J.aload_n (pc := 0) C dX0_dark_0 rfl rfl ?_
  refine gf_X0_0 (pc := 1) ha C tf_X0_11 dX0_dark_1 ?_
  refine J.iconst (pc := 4) C 2 dX0_dark_4 ic_2 ?_
  refine J.callS2i (pc := 5) C (K_X4_at (ia_al1 q cI ha) _ _) lk_X4_at tm_X0_47 ⟨Nat.le_of_ble_eq_true rfl, Nat.le_of_ble_eq_true rfl⟩ (Nat.le_of_ble_eq_true rfl) dX0_dark_5 ?_
  exact hret dX0_dark_8 hM rfl
def V_X0_dark (a : Nat) (g : Sg) : Int32 := rat g (a + 1) 3 2
theorem E_X0_dark (a : Nat) (g : Sg) : M_X0_dark a g = some (V_X0_dark a g, g) := by
  unfold M_X0_dark V_X0_dark
  first | rfl | ((try dsimp only [lt]); (repeat' split) <;> rfl)
theorem K_X0_dark {l : Launch} {D : va_G} {q : Nat → Nat} {cI : ClassId} {z : Nat} {a : Nat} (ha : isAl a) (g : Sg) : CTi l (EC z) D cI (cW q cI) yX0_dark cX0_dark 1 (some .int) 1 21 [.ref (q a)] g (V_X0_dark a g, g) := C_X0_dark ha (E_X0_dark a g)
def M_X0_knows (a : Nat) (x1 : Int32) (g : Sg) : Option (Int32 × Sg) := (if x1 < 0 then some (0, g) else (if (g.1 a) ≤ x1 then some (0, g) else some (1, g)))
set_option maxRecDepth 100000 in
set_option maxHeartbeats 4000000 in
theorem C_X0_knows {l : Launch} {D : va_G} {q : Nat → Nat} {cI : ClassId} {z : Nat} {a : Nat} (ha : isAl a) {x1 : Int32} {g : Sg} {r : Int32 × Sg} (h : M_X0_knows a x1 g = some r) : CTi l (EC z) D cI (cW q cI) yX0_knows cX0_knows 2 (some .boolean) 0 0 [.ref (q a), .int x1] g r := by
  refine CTi.of2 (by decide) (EC_ok z) (Nat.le_of_ble_eq_true rfl) rfl (fun p e s m args below meth c A Q C hret => ?_)
  have hM := h
  unfold M_X0_knows at hM
  refine J.iload_n (pc := 0) C dX0_knows_0 rfl rfl ?_
  refine J.if_lt (pc := 1) C 16 dX0_knows_1 (by decide) (fun hc => ?_) (fun hc => ?_)
  · have hM := ite_t hc hM
    refine J.iconst (pc := 16) C 0 dX0_knows_16 ic_0 ?_
    exact hret dX0_knows_17 hM (by decide)
  · have hM := ite_f hc hM
    refine J.iload_n (pc := 4) C dX0_knows_4 rfl rfl ?_
    refine J.aload_n (pc := 5) C dX0_knows_5 rfl rfl ?_
    refine gf_X0_6 (pc := 6) ha C tf_X0_36 dX0_knows_6 ?_
    refine J.icmp_ge (pc := 9) C 16 dX0_knows_9 (by decide) (fun hc => ?_) (fun hc => ?_)
    · have hM := ite_t hc hM
      refine J.iconst (pc := 16) C 0 dX0_knows_16 ic_0 ?_
      exact hret dX0_knows_17 hM (by decide)
    · have hM := ite_f hc hM
      refine J.iconst (pc := 12) C 1 dX0_knows_12 ic_1 ?_
      refine J.goto (pc := 13) C 17 dX0_knows_13 (by decide) ?_
      exact hret dX0_knows_17 hM (by decide)
def V_X0_knows (a : Nat) (x1 : Int32) (g : Sg) : Int32 := (if x1 < 0 then 0 else (if (g.1 a) ≤ x1 then 0 else 1))
theorem E_X0_knows (a : Nat) (x1 : Int32) (g : Sg) : M_X0_knows a x1 g = some (V_X0_knows a x1 g, g) := by
  unfold M_X0_knows V_X0_knows
  first | rfl | ((try dsimp only [lt]); (repeat' split) <;> rfl)
theorem K_X0_knows {l : Launch} {D : va_G} {q : Nat → Nat} {cI : ClassId} {z : Nat} {a : Nat} (ha : isAl a) (x1 : Int32) (g : Sg) : CTi l (EC z) D cI (cW q cI) yX0_knows cX0_knows 2 (some .boolean) 0 0 [.ref (q a), .int x1] g (V_X0_knows a x1 g, g) := C_X0_knows ha (E_X0_knows a x1 g)
def M_X0_settle (a : Nat) (x1 x2 : Int32) (g : Sg) : Option (Int32 × Sg) := (if x2 ≤ (ratZ x1) then lt (rput g (a + 1) 3 x1 x2) (fun g_1 => some (1, g_1)) else some (0, g))
set_option maxRecDepth 100000 in
set_option maxHeartbeats 4000000 in
theorem C_X0_settle {l : Launch} {D : va_G} {q : Nat → Nat} {cI : ClassId} {z : Nat} {a : Nat} (ha : isAl a) {x1 x2 : Int32} {g : Sg} {r : Int32 × Sg} (h : M_X0_settle a x1 x2 g = some r) : CTi l (EC z) D cI (cW q cI) yX0_settle cX0_settle 3 (some .boolean) 1 22 [.ref (q a), .int x1, .int x2] g r := by
  refine CTi.of2 (by decide) (EC_ok z) (Nat.le_of_ble_eq_true rfl) rfl (fun p e s m args below meth c A Q C hret => ?_)
  have hM := h
  unfold M_X0_settle at hM
  refine J.iload_n (pc := 0) C dX0_settle_0 rfl rfl ?_
  refine J.getsZ (pc := 1) C tf_X0_51 dX0_settle_1 ?_
  refine J.iload_n (pc := 4) C dX0_settle_4 rfl rfl ?_
  refine J.callS2i (pc := 5) C (K_X4_atZ _ _) lk_X4_at tm_X0_47 ⟨Nat.le_of_ble_eq_true rfl, Nat.le_of_ble_eq_true rfl⟩ (Nat.le_of_ble_eq_true rfl) dX0_settle_5 ?_
  refine J.icmp_le (pc := 8) C 13 dX0_settle_8 (by decide) (fun hc => ?_) (fun hc => ?_)
  · have hM := ite_t hc hM
    refine J.aload_n (pc := 13) C dX0_settle_13 rfl rfl ?_
    refine gf_X0_0 (pc := 14) ha C tf_X0_11 dX0_settle_14 ?_
    refine J.iload_n (pc := 17) C dX0_settle_17 rfl rfl ?_
    refine J.iload_n (pc := 18) C dX0_settle_18 rfl rfl ?_
    refine J.callS3v (pc := 19) C (K_X4_put (ia_al1 q cI ha) _ _ _) lk_X4_put tm_X0_30 ⟨Nat.le_of_ble_eq_true rfl, Nat.le_of_ble_eq_true rfl⟩ (Nat.le_of_ble_eq_true rfl) dX0_settle_19 ?_
    obtain ⟨_, ea, hM⟩ := lt_ex hM
    refine J.cong C ea ?_
    refine J.iconst (pc := 22) C 1 dX0_settle_22 ic_1 ?_
    exact hret dX0_settle_23 hM (by decide)
  · have hM := ite_f hc hM
    refine J.iconst (pc := 11) C 0 dX0_settle_11 ic_0 ?_
    exact hret dX0_settle_12 hM (by decide)
def M_X0_becomeLike (a : Nat) (b : Nat) (g : Sg) : Option Sg := lt (rcp g (b + 1) (a + 1) 3) (fun g_1 => lt (rcp g_1 (b + 2) (a + 2) 7) (fun g_2 => lt (rcp g_2 (b + 3) (a + 3) 7) (fun g_3 => lt (rcp g_3 (b + 4) (a + 4) 7) (fun g_4 => lt (rcp g_4 (b + 5) (a + 5) 7) (fun g_5 => lt (rcp g_5 (b + 6) (a + 6) 7) (fun g_6 => lt (sI g_6 a (g_6.1 b)) (fun g_7 => lt (sI g_7 (a + 1) (g_7.1 (b + 1))) (fun g_8 => some g_8))))))))
set_option maxRecDepth 100000 in
set_option maxHeartbeats 4000000 in
theorem C_X0_becomeLike {l : Launch} {D : va_G} {q : Nat → Nat} {cI : ClassId} {z : Nat} {a : Nat} {b : Nat} (ha : isAl a) (hb : isAl b) {g : Sg} {r : Sg} (h : M_X0_becomeLike a b g = some r) : CTv l (EC z) D cI (cW q cI) yX0_becomeLike cX0_becomeLike 2 1 22 [.ref (q a), .ref (q b)] g r := by
  refine CTv.of2 (by decide) (EC_ok z) (Nat.le_of_ble_eq_true rfl) rfl (fun p e s m args below meth c A Q C hret => ?_)
  have hM := h
  unfold M_X0_becomeLike at hM
  refine J.aload_n (pc := 0) C dX0_becomeLike_0 rfl rfl ?_
  refine gf_X0_0 (pc := 1) hb C tf_X0_11 dX0_becomeLike_1 ?_
  refine J.aload_n (pc := 4) C dX0_becomeLike_4 rfl rfl ?_
  refine gf_X0_0 (pc := 5) ha C tf_X0_11 dX0_becomeLike_5 ?_
  refine J.callS2v (pc := 8) C (K_X4_copy (ia_al1 q cI hb) (ia_al1 q cI ha) _) lk_X4_copy tm_X0_43 ⟨Nat.le_of_ble_eq_true rfl, Nat.le_of_ble_eq_true rfl⟩ (Nat.le_of_ble_eq_true rfl) dX0_becomeLike_8 ?_
  obtain ⟨_, ea, hM⟩ := lt_ex hM
  refine J.cong C ea ?_
  refine J.aload_n (pc := 11) C dX0_becomeLike_11 rfl rfl ?_
  refine gf_X0_1 (pc := 12) hb C tf_X0_15 dX0_becomeLike_12 ?_
  refine J.aload_n (pc := 15) C dX0_becomeLike_15 rfl rfl ?_
  refine gf_X0_1 (pc := 16) ha C tf_X0_15 dX0_becomeLike_16 ?_
  refine J.callS2v (pc := 19) C (K_X4_copy (ia_al2 q cI hb) (ia_al2 q cI ha) _) lk_X4_copy tm_X0_43 ⟨Nat.le_of_ble_eq_true rfl, Nat.le_of_ble_eq_true rfl⟩ (Nat.le_of_ble_eq_true rfl) dX0_becomeLike_19 ?_
  obtain ⟨_, ea, hM⟩ := lt_ex hM
  refine J.cong C ea ?_
  refine J.aload_n (pc := 22) C dX0_becomeLike_22 rfl rfl ?_
  refine gf_X0_2 (pc := 23) hb C tf_X0_18 dX0_becomeLike_23 ?_
  refine J.aload_n (pc := 26) C dX0_becomeLike_26 rfl rfl ?_
  refine gf_X0_2 (pc := 27) ha C tf_X0_18 dX0_becomeLike_27 ?_
  refine J.callS2v (pc := 30) C (K_X4_copy (ia_al3 q cI hb) (ia_al3 q cI ha) _) lk_X4_copy tm_X0_43 ⟨Nat.le_of_ble_eq_true rfl, Nat.le_of_ble_eq_true rfl⟩ (Nat.le_of_ble_eq_true rfl) dX0_becomeLike_30 ?_
  obtain ⟨_, ea, hM⟩ := lt_ex hM
  refine J.cong C ea ?_
  refine J.aload_n (pc := 33) C dX0_becomeLike_33 rfl rfl ?_
  refine gf_X0_3 (pc := 34) hb C tf_X0_21 dX0_becomeLike_34 ?_
  refine J.aload_n (pc := 37) C dX0_becomeLike_37 rfl rfl ?_
  refine gf_X0_3 (pc := 38) ha C tf_X0_21 dX0_becomeLike_38 ?_
  refine J.callS2v (pc := 41) C (K_X4_copy (ia_al4 q cI hb) (ia_al4 q cI ha) _) lk_X4_copy tm_X0_43 ⟨Nat.le_of_ble_eq_true rfl, Nat.le_of_ble_eq_true rfl⟩ (Nat.le_of_ble_eq_true rfl) dX0_becomeLike_41 ?_
  obtain ⟨_, ea, hM⟩ := lt_ex hM
  refine J.cong C ea ?_
  refine J.aload_n (pc := 44) C dX0_becomeLike_44 rfl rfl ?_
  refine gf_X0_4 (pc := 45) hb C tf_X0_24 dX0_becomeLike_45 ?_
  refine J.aload_n (pc := 48) C dX0_becomeLike_48 rfl rfl ?_
  refine gf_X0_4 (pc := 49) ha C tf_X0_24 dX0_becomeLike_49 ?_
  refine J.callS2v (pc := 52) C (K_X4_copy (ia_al5 q cI hb) (ia_al5 q cI ha) _) lk_X4_copy tm_X0_43 ⟨Nat.le_of_ble_eq_true rfl, Nat.le_of_ble_eq_true rfl⟩ (Nat.le_of_ble_eq_true rfl) dX0_becomeLike_52 ?_
  obtain ⟨_, ea, hM⟩ := lt_ex hM
  refine J.cong C ea ?_
  refine J.aload_n (pc := 55) C dX0_becomeLike_55 rfl rfl ?_
  refine gf_X0_5 (pc := 56) hb C tf_X0_27 dX0_becomeLike_56 ?_
  refine J.aload_n (pc := 59) C dX0_becomeLike_59 rfl rfl ?_
  refine gf_X0_5 (pc := 60) ha C tf_X0_27 dX0_becomeLike_60 ?_
  refine J.callS2v (pc := 63) C (K_X4_copy (ia_al6 q cI hb) (ia_al6 q cI ha) _) lk_X4_copy tm_X0_43 ⟨Nat.le_of_ble_eq_true rfl, Nat.le_of_ble_eq_true rfl⟩ (Nat.le_of_ble_eq_true rfl) dX0_becomeLike_63 ?_
  obtain ⟨_, ea, hM⟩ := lt_ex hM
  refine J.cong C ea ?_
  refine J.aload_n (pc := 66) C dX0_becomeLike_66 rfl rfl ?_
  refine J.aload_n (pc := 67) C dX0_becomeLike_67 rfl rfl ?_
  refine gf_X0_6 (pc := 68) hb C tf_X0_36 dX0_becomeLike_68 ?_
  refine pf_X0_6 (pc := 71) ha C tf_X0_36 dX0_becomeLike_71 ?_
  obtain ⟨_, ea, hM⟩ := lt_ex hM
  refine J.cong C ea ?_
  refine J.aload_n (pc := 74) C dX0_becomeLike_74 rfl rfl ?_
  refine J.aload_n (pc := 75) C dX0_becomeLike_75 rfl rfl ?_
  refine gf_X0_7 (pc := 76) hb C tf_X0_40 dX0_becomeLike_76 ?_
  refine pf_X0_7 (pc := 79) ha C tf_X0_40 dX0_becomeLike_79 ?_
  obtain ⟨_, ea, hM⟩ := lt_ex hM
  refine J.cong C ea ?_
  exact hret dX0_becomeLike_82 hM
def U_X0_becomeLike (a : Nat) (b : Nat) (g : Sg) : Sg := let g_1 := (rcp g (b + 1) (a + 1) 3); let g_2 := (rcp g_1 (b + 2) (a + 2) 7); let g_3 := (rcp g_2 (b + 3) (a + 3) 7); let g_4 := (rcp g_3 (b + 4) (a + 4) 7); let g_5 := (rcp g_4 (b + 5) (a + 5) 7); let g_6 := (rcp g_5 (b + 6) (a + 6) 7); let g_7 := (sI g_6 a (g_6.1 b)); let g_8 := (sI g_7 (a + 1) (g_7.1 (b + 1))); g_8
theorem E_X0_becomeLike (a : Nat) (b : Nat) (g : Sg) : M_X0_becomeLike a b g = some (U_X0_becomeLike a b g) := by
  unfold M_X0_becomeLike U_X0_becomeLike
  first | rfl | ((try dsimp only [lt]); (repeat' split) <;> rfl)
theorem K_X0_becomeLike {l : Launch} {D : va_G} {q : Nat → Nat} {cI : ClassId} {z : Nat} {a : Nat} {b : Nat} (ha : isAl a) (hb : isAl b) (g : Sg) : CTv l (EC z) D cI (cW q cI) yX0_becomeLike cX0_becomeLike 2 1 22 [.ref (q a), .ref (q b)] g (U_X0_becomeLike a b g) := C_X0_becomeLike ha hb (E_X0_becomeLike a b g)
def M_X0_add (a : Nat) (x1 x2 x3 x4 x5 : Int32) (g : Sg) : Option (Int32 × Sg) := (if 7 ≤ (g.1 a) then some (0, g) else (if 40 ≤ x3 then some (0, g) else (if 40 ≤ x4 then some (0, g) else (if x5 < 12 then lt (rput g (a + 2) 7 (g.1 a) x1) (fun g_1 => lt (rput g_1 (a + 3) 7 (g_1.1 a) x2) (fun g_2 => lt (rput g_2 (a + 4) 7 (g_2.1 a) x3) (fun g_3 => lt (rput g_3 (a + 5) 7 (g_3.1 a) x4) (fun g_4 => lt (rput g_4 (a + 6) 7 (g_4.1 a) x5) (fun g_5 => lt (sI g_5 a ((g_5.1 a) + 1)) (fun g_6 => some (1, g_6))))))) else some (0, g)))))
set_option maxRecDepth 100000 in
set_option maxHeartbeats 4000000 in
theorem C_X0_add {l : Launch} {D : va_G} {q : Nat → Nat} {cI : ClassId} {z : Nat} {a : Nat} (ha : isAl a) {x1 x2 x3 x4 x5 : Int32} {g : Sg} {r : Int32 × Sg} (h : M_X0_add a x1 x2 x3 x4 x5 g = some r) : CTi l (EC z) D cI (cW q cI) yX0_add cX0_add 6 (some .boolean) 1 22 [.ref (q a), .int x1, .int x2, .int x3, .int x4, .int x5] g r := by
  refine CTi.of2 (by decide) (EC_ok z) (Nat.le_of_ble_eq_true rfl) rfl (fun p e s m args below meth c A Q C hret => ?_)
  have hM := h
  unfold M_X0_add at hM
  refine J.aload_n (pc := 0) C dX0_add_0 rfl rfl ?_
  refine gf_X0_6 (pc := 1) ha C tf_X0_36 dX0_add_1 ?_
  refine J.bipush (pc := 4) C 7 dX0_add_4 bp_7 ?_
  refine J.icmp_ge (pc := 6) C 29 dX0_add_6 (by decide) (fun hc => ?_) (fun hc => ?_)
  · have hM := ite_t hc hM
    refine J.iconst (pc := 29) C 0 dX0_add_29 ic_0 ?_
    exact hret dX0_add_30 hM (by decide)
  · have hM := ite_f hc hM
    refine J.iload_n (pc := 9) C dX0_add_9 rfl rfl ?_
    refine J.bipush (pc := 10) C 40 dX0_add_10 bp_40 ?_
    refine J.icmp_ge (pc := 12) C 29 dX0_add_12 (by decide) (fun hc => ?_) (fun hc => ?_)
    · have hM := ite_t hc hM
      refine J.iconst (pc := 29) C 0 dX0_add_29 ic_0 ?_
      exact hret dX0_add_30 hM (by decide)
    · have hM := ite_f hc hM
      refine J.iload (pc := 15) C dX0_add_15 rfl ?_
      refine J.bipush (pc := 17) C 40 dX0_add_17 bp_40 ?_
      refine J.icmp_ge (pc := 19) C 29 dX0_add_19 (by decide) (fun hc => ?_) (fun hc => ?_)
      · have hM := ite_t hc hM
        refine J.iconst (pc := 29) C 0 dX0_add_29 ic_0 ?_
        exact hret dX0_add_30 hM (by decide)
      · have hM := ite_f hc hM
        refine J.iload (pc := 22) C dX0_add_22 rfl ?_
        refine J.bipush (pc := 24) C 12 dX0_add_24 bp_12 ?_
        refine J.icmp_lt (pc := 26) C 31 dX0_add_26 (by decide) (fun hc => ?_) (fun hc => ?_)
        · have hM := ite_t hc hM
          refine J.aload_n (pc := 31) C dX0_add_31 rfl rfl ?_
          refine gf_X0_1 (pc := 32) ha C tf_X0_15 dX0_add_32 ?_
          refine J.aload_n (pc := 35) C dX0_add_35 rfl rfl ?_
          refine gf_X0_6 (pc := 36) ha C tf_X0_36 dX0_add_36 ?_
          refine J.iload_n (pc := 39) C dX0_add_39 rfl rfl ?_
          refine J.callS3v (pc := 40) C (K_X4_put (ia_al2 q cI ha) _ _ _) lk_X4_put tm_X0_30 ⟨Nat.le_of_ble_eq_true rfl, Nat.le_of_ble_eq_true rfl⟩ (Nat.le_of_ble_eq_true rfl) dX0_add_40 ?_
          obtain ⟨_, ea, hM⟩ := lt_ex hM
          refine J.cong C ea ?_
          refine J.aload_n (pc := 43) C dX0_add_43 rfl rfl ?_
          refine gf_X0_2 (pc := 44) ha C tf_X0_18 dX0_add_44 ?_
          refine J.aload_n (pc := 47) C dX0_add_47 rfl rfl ?_
          refine gf_X0_6 (pc := 48) ha C tf_X0_36 dX0_add_48 ?_
          refine J.iload_n (pc := 51) C dX0_add_51 rfl rfl ?_
          refine J.callS3v (pc := 52) C (K_X4_put (ia_al3 q cI ha) _ _ _) lk_X4_put tm_X0_30 ⟨Nat.le_of_ble_eq_true rfl, Nat.le_of_ble_eq_true rfl⟩ (Nat.le_of_ble_eq_true rfl) dX0_add_52 ?_
          obtain ⟨_, ea, hM⟩ := lt_ex hM
          refine J.cong C ea ?_
          refine J.aload_n (pc := 55) C dX0_add_55 rfl rfl ?_
          refine gf_X0_3 (pc := 56) ha C tf_X0_21 dX0_add_56 ?_
          refine J.aload_n (pc := 59) C dX0_add_59 rfl rfl ?_
          refine gf_X0_6 (pc := 60) ha C tf_X0_36 dX0_add_60 ?_
          refine J.iload_n (pc := 63) C dX0_add_63 rfl rfl ?_
          refine J.callS3v (pc := 64) C (K_X4_put (ia_al4 q cI ha) _ _ _) lk_X4_put tm_X0_30 ⟨Nat.le_of_ble_eq_true rfl, Nat.le_of_ble_eq_true rfl⟩ (Nat.le_of_ble_eq_true rfl) dX0_add_64 ?_
          obtain ⟨_, ea, hM⟩ := lt_ex hM
          refine J.cong C ea ?_
          refine J.aload_n (pc := 67) C dX0_add_67 rfl rfl ?_
          refine gf_X0_4 (pc := 68) ha C tf_X0_24 dX0_add_68 ?_
          refine J.aload_n (pc := 71) C dX0_add_71 rfl rfl ?_
          refine gf_X0_6 (pc := 72) ha C tf_X0_36 dX0_add_72 ?_
          refine J.iload (pc := 75) C dX0_add_75 rfl ?_
          refine J.callS3v (pc := 77) C (K_X4_put (ia_al5 q cI ha) _ _ _) lk_X4_put tm_X0_30 ⟨Nat.le_of_ble_eq_true rfl, Nat.le_of_ble_eq_true rfl⟩ (Nat.le_of_ble_eq_true rfl) dX0_add_77 ?_
          obtain ⟨_, ea, hM⟩ := lt_ex hM
          refine J.cong C ea ?_
          refine J.aload_n (pc := 80) C dX0_add_80 rfl rfl ?_
          refine gf_X0_5 (pc := 81) ha C tf_X0_27 dX0_add_81 ?_
          refine J.aload_n (pc := 84) C dX0_add_84 rfl rfl ?_
          refine gf_X0_6 (pc := 85) ha C tf_X0_36 dX0_add_85 ?_
          refine J.iload (pc := 88) C dX0_add_88 rfl ?_
          refine J.callS3v (pc := 90) C (K_X4_put (ia_al6 q cI ha) _ _ _) lk_X4_put tm_X0_30 ⟨Nat.le_of_ble_eq_true rfl, Nat.le_of_ble_eq_true rfl⟩ (Nat.le_of_ble_eq_true rfl) dX0_add_90 ?_
          obtain ⟨_, ea, hM⟩ := lt_ex hM
          refine J.cong C ea ?_
          refine J.aload_n (pc := 93) C dX0_add_93 rfl rfl ?_
          refine J.dup (pc := 94) C dX0_add_94 rfl ?_
          refine gf_X0_6 (pc := 95) ha C tf_X0_36 dX0_add_95 ?_
          refine J.iconst (pc := 98) C 1 dX0_add_98 ic_1 ?_
          refine J.iadd (pc := 99) C dX0_add_99 ?_
          refine pf_X0_6 (pc := 100) ha C tf_X0_36 dX0_add_100 ?_
          obtain ⟨_, ea, hM⟩ := lt_ex hM
          refine J.cong C ea ?_
          refine J.iconst (pc := 103) C 1 dX0_add_103 ic_1 ?_
          exact hret dX0_add_104 hM (by decide)
        · have hM := ite_f hc hM
          refine J.iconst (pc := 29) C 0 dX0_add_29 ic_0 ?_
          exact hret dX0_add_30 hM (by decide)
def M_X0_exchangeHours (a : Nat) (x1 x2 : Int32) (g : Sg) : Option (Int32 × Sg) := (if (V_X0_knows a x1 g) = 0 then some (0, g) else (if (V_X0_knows a x2 g) = 0 then some (0, g) else (if x1 = x2 then some (0, g) else lt (U_X4_exchange (a + 6) 7 x1 x2 g) (fun g_1 => some (1, g_1)))))
set_option maxRecDepth 100000 in
set_option maxHeartbeats 4000000 in
theorem C_X0_exchangeHours {l : Launch} {D : va_G} {q : Nat → Nat} {cI : ClassId} {z : Nat} {a : Nat} (ha : isAl a) {x1 x2 : Int32} {g : Sg} {r : Int32 × Sg} (h : M_X0_exchangeHours a x1 x2 g = some r) : CTi l (EC z) D cI (cW q cI) yX0_exchangeHours cX0_exchangeHours 3 (some .boolean) 2 45 [.ref (q a), .int x1, .int x2] g r := by
  refine CTi.of2 (by decide) (EC_ok z) (Nat.le_of_ble_eq_true rfl) rfl (fun p e s m args below meth c A Q C hret => ?_)
  have hM := h
  unfold M_X0_exchangeHours at hM
  refine J.aload_n (pc := 0) C dX0_exchangeHours_0 rfl rfl ?_
  refine J.iload_n (pc := 1) C dX0_exchangeHours_1 rfl rfl ?_
  refine J.callV1i (pc := 2) C (K_X0_knows ha _ _) lk_X0_knows tm_X0_54 (io_al q cI ha) ⟨Nat.le_of_ble_eq_true rfl, Nat.le_of_ble_eq_true rfl⟩ (Nat.le_of_ble_eq_true rfl) dX0_exchangeHours_2 ?_
  refine J.if_eq (pc := 5) C 21 dX0_exchangeHours_5 (by decide) (fun hc => ?_) (fun hc => ?_)
  · have hM := ite_t hc hM
    refine J.iconst (pc := 21) C 0 dX0_exchangeHours_21 ic_0 ?_
    exact hret dX0_exchangeHours_22 hM (by decide)
  · have hM := ite_f hc hM
    refine J.aload_n (pc := 8) C dX0_exchangeHours_8 rfl rfl ?_
    refine J.iload_n (pc := 9) C dX0_exchangeHours_9 rfl rfl ?_
    refine J.callV1i (pc := 10) C (K_X0_knows ha _ _) lk_X0_knows tm_X0_54 (io_al q cI ha) ⟨Nat.le_of_ble_eq_true rfl, Nat.le_of_ble_eq_true rfl⟩ (Nat.le_of_ble_eq_true rfl) dX0_exchangeHours_10 ?_
    refine J.if_eq (pc := 13) C 21 dX0_exchangeHours_13 (by decide) (fun hc => ?_) (fun hc => ?_)
    · have hM := ite_t hc hM
      refine J.iconst (pc := 21) C 0 dX0_exchangeHours_21 ic_0 ?_
      exact hret dX0_exchangeHours_22 hM (by decide)
    · have hM := ite_f hc hM
      refine J.iload_n (pc := 16) C dX0_exchangeHours_16 rfl rfl ?_
      refine J.iload_n (pc := 17) C dX0_exchangeHours_17 rfl rfl ?_
      refine J.icmp_ne (pc := 18) C 23 dX0_exchangeHours_18 (by decide) (fun hc => ?_) (fun hc => ?_)
      · have hM := ite_f hc hM
        refine J.aload_n (pc := 23) C dX0_exchangeHours_23 rfl rfl ?_
        refine gf_X0_5 (pc := 24) ha C tf_X0_27 dX0_exchangeHours_24 ?_
        refine J.iload_n (pc := 27) C dX0_exchangeHours_27 rfl rfl ?_
        refine J.iload_n (pc := 28) C dX0_exchangeHours_28 rfl rfl ?_
        refine J.callS3v (pc := 29) C (K_X4_exchange (ia_al6 q cI ha) _ _ _) lk_X4_exchange tm_X0_58 ⟨Nat.le_of_ble_eq_true rfl, Nat.le_of_ble_eq_true rfl⟩ (Nat.le_of_ble_eq_true rfl) dX0_exchangeHours_29 ?_
        obtain ⟨_, ea, hM⟩ := lt_ex hM
        refine J.cong C ea ?_
        refine J.iconst (pc := 32) C 1 dX0_exchangeHours_32 ic_1 ?_
        exact hret dX0_exchangeHours_33 hM (by decide)
      · have hM := ite_t hc hM
        refine J.iconst (pc := 21) C 0 dX0_exchangeHours_21 ic_0 ?_
        exact hret dX0_exchangeHours_22 hM (by decide)
def M_X0_changeHour (a : Nat) (x1 x2 : Int32) (g : Sg) : Option (Int32 × Sg) := (if (V_X0_knows a x1 g) = 0 then some (0, g) else (if x2 < 12 then lt (rput g (a + 6) 7 x1 x2) (fun g_1 => some (1, g_1)) else some (0, g)))
set_option maxRecDepth 100000 in
set_option maxHeartbeats 4000000 in
theorem C_X0_changeHour {l : Launch} {D : va_G} {q : Nat → Nat} {cI : ClassId} {z : Nat} {a : Nat} (ha : isAl a) {x1 x2 : Int32} {g : Sg} {r : Int32 × Sg} (h : M_X0_changeHour a x1 x2 g = some r) : CTi l (EC z) D cI (cW q cI) yX0_changeHour cX0_changeHour 3 (some .boolean) 1 22 [.ref (q a), .int x1, .int x2] g r := by
  refine CTi.of2 (by decide) (EC_ok z) (Nat.le_of_ble_eq_true rfl) rfl (fun p e s m args below meth c A Q C hret => ?_)
  have hM := h
  unfold M_X0_changeHour at hM
  refine J.aload_n (pc := 0) C dX0_changeHour_0 rfl rfl ?_
  refine J.iload_n (pc := 1) C dX0_changeHour_1 rfl rfl ?_
  refine J.callV1i (pc := 2) C (K_X0_knows ha _ _) lk_X0_knows tm_X0_54 (io_al q cI ha) ⟨Nat.le_of_ble_eq_true rfl, Nat.le_of_ble_eq_true rfl⟩ (Nat.le_of_ble_eq_true rfl) dX0_changeHour_2 ?_
  refine J.if_eq (pc := 5) C 14 dX0_changeHour_5 (by decide) (fun hc => ?_) (fun hc => ?_)
  · have hM := ite_t hc hM
    refine J.iconst (pc := 14) C 0 dX0_changeHour_14 ic_0 ?_
    exact hret dX0_changeHour_15 hM (by decide)
  · have hM := ite_f hc hM
    refine J.iload_n (pc := 8) C dX0_changeHour_8 rfl rfl ?_
    refine J.bipush (pc := 9) C 12 dX0_changeHour_9 bp_12 ?_
    refine J.icmp_lt (pc := 11) C 16 dX0_changeHour_11 (by decide) (fun hc => ?_) (fun hc => ?_)
    · have hM := ite_t hc hM
      refine J.aload_n (pc := 16) C dX0_changeHour_16 rfl rfl ?_
      refine gf_X0_5 (pc := 17) ha C tf_X0_27 dX0_changeHour_17 ?_
      refine J.iload_n (pc := 20) C dX0_changeHour_20 rfl rfl ?_
      refine J.iload_n (pc := 21) C dX0_changeHour_21 rfl rfl ?_
      refine J.callS3v (pc := 22) C (K_X4_put (ia_al6 q cI ha) _ _ _) lk_X4_put tm_X0_30 ⟨Nat.le_of_ble_eq_true rfl, Nat.le_of_ble_eq_true rfl⟩ (Nat.le_of_ble_eq_true rfl) dX0_changeHour_22 ?_
      obtain ⟨_, ea, hM⟩ := lt_ex hM
      refine J.cong C ea ?_
      refine J.iconst (pc := 25) C 1 dX0_changeHour_25 ic_1 ?_
      exact hret dX0_changeHour_26 hM (by decide)
    · have hM := ite_f hc hM
      refine J.iconst (pc := 14) C 0 dX0_changeHour_14 ic_0 ?_
      exact hret dX0_changeHour_15 hM (by decide)
def B_X0_sendHome_108 (a : Nat) (x1 : Int32) (g : Sg) : Option Sg := (if (V_X0_knows a x1 g) = 0 then some g else lt (sI g a ((g.1 a) - 1)) (fun g_6 => some g_6))
def B_X0_sendHome_2 (a : Nat) (kb2 : Int32 → Int32 → Sg → Option Sg) (x1 x2 : Int32) (g : Sg) : Option Sg := (if ((g.1 a) - 1) ≤ x2 then B_X0_sendHome_108 a x1 g else lt (rput g (a + 2) 7 x2 (rat g (a + 2) 7 (x2 + 1))) (fun g_1 => lt (rput g_1 (a + 3) 7 x2 (rat g_1 (a + 3) 7 (x2 + 1))) (fun g_2 => lt (rput g_2 (a + 4) 7 x2 (rat g_2 (a + 4) 7 (x2 + 1))) (fun g_3 => lt (rput g_3 (a + 5) 7 x2 (rat g_3 (a + 5) 7 (x2 + 1))) (fun g_4 => lt (rput g_4 (a + 6) 7 x2 (rat g_4 (a + 6) 7 (x2 + 1))) (fun g_5 => kb2 x1 (x2 + 1) g_5))))))
def M_X0_sendHome (a : Nat) (x1 : Int32) (g : Sg) : Option Sg := lup2 (B_X0_sendHome_2 a ) FU x1 x1 g
set_option maxRecDepth 100000 in
set_option maxHeartbeats 4000000 in
theorem C_X0_sendHome {l : Launch} {D : va_G} {q : Nat → Nat} {cI : ClassId} {z : Nat} {a : Nat} (ha : isAl a) {x1 : Int32} {g : Sg} {r : Sg} (h : M_X0_sendHome a x1 g = some r) : CTv l (EC z) D cI (cW q cI) yX0_sendHome cX0_sendHome 3 1 22 [.ref (q a), .int x1] g r := by
  refine CTv.of2 (by decide) (EC_ok z) (Nat.le_of_ble_eq_true rfl) rfl (fun p e s m args below meth c A Q C hret => ?_)
  have jb108 : ∀ (x1 : Int32) (g : Sg), B_X0_sendHome_108 a x1 g = some r → J p l e (RM 1 22) s m args below meth c D (cW q cI) A 3 Q g 108 [(0, .ref (q a)), (1, .int x1)] [] := by
    intro x1 g hM
    unfold B_X0_sendHome_108 at hM
    refine J.aload_n (pc := 108) C dX0_sendHome_108 rfl rfl ?_
    refine J.iload_n (pc := 109) C dX0_sendHome_109 rfl rfl ?_
    refine J.callV1i (pc := 110) C (K_X0_knows ha _ _) lk_X0_knows tm_X0_54 (io_al q cI ha) ⟨Nat.le_of_ble_eq_true rfl, Nat.le_of_ble_eq_true rfl⟩ (Nat.le_of_ble_eq_true rfl) dX0_sendHome_110 ?_
    refine J.if_eq (pc := 113) C 126 dX0_sendHome_113 (by decide) (fun hc => ?_) (fun hc => ?_)
    · have hM := ite_t hc hM
      exact hret dX0_sendHome_126 hM
    · have hM := ite_f hc hM
      refine J.aload_n (pc := 116) C dX0_sendHome_116 rfl rfl ?_
      refine J.dup (pc := 117) C dX0_sendHome_117 rfl ?_
      refine gf_X0_6 (pc := 118) ha C tf_X0_36 dX0_sendHome_118 ?_
      refine J.iconst (pc := 121) C 1 dX0_sendHome_121 ic_1 ?_
      refine J.isub (pc := 122) C dX0_sendHome_122 ?_
      refine pf_X0_6 (pc := 123) ha C tf_X0_36 dX0_sendHome_123 ?_
      obtain ⟨_, ea, hM⟩ := lt_ex hM
      refine J.cong C ea ?_
      exact hret dX0_sendHome_126 hM
  have jb2 : ∀ (kb2 : Int32 → Int32 → Sg → Option Sg) (hkb2 : ∀ (x1 x2 : Int32) (g : Sg), kb2 x1 x2 g = some r → J p l e (RM 1 22) s m args below meth c D (cW q cI) A 3 Q g 2 [(0, .ref (q a)), (1, .int x1), (2, .int x2)] []) (x1 x2 : Int32) (g : Sg), B_X0_sendHome_2 a kb2 x1 x2 g = some r → J p l e (RM 1 22) s m args below meth c D (cW q cI) A 3 Q g 2 [(0, .ref (q a)), (1, .int x1), (2, .int x2)] [] := by
    intro kb2 hkb2 x1 x2 g hM
    unfold B_X0_sendHome_2 at hM
    refine J.iload_n (pc := 2) C dX0_sendHome_2 rfl rfl ?_
    refine J.aload_n (pc := 3) C dX0_sendHome_3 rfl rfl ?_
    refine gf_X0_6 (pc := 4) ha C tf_X0_36 dX0_sendHome_4 ?_
    refine J.iconst (pc := 7) C 1 dX0_sendHome_7 ic_1 ?_
    refine J.isub (pc := 8) C dX0_sendHome_8 ?_
    refine J.icmp_ge (pc := 9) C 108 dX0_sendHome_9 (by decide) (fun hc => ?_) (fun hc => ?_)
    · have hM := ite_t hc hM
      refine J.sub C [0, 1] rfl ?_
      exact jb108 _ _ hM
    · have hM := ite_f hc hM
      refine J.aload_n (pc := 12) C dX0_sendHome_12 rfl rfl ?_
      refine gf_X0_1 (pc := 13) ha C tf_X0_15 dX0_sendHome_13 ?_
      refine J.iload_n (pc := 16) C dX0_sendHome_16 rfl rfl ?_
      refine J.aload_n (pc := 17) C dX0_sendHome_17 rfl rfl ?_
      refine gf_X0_1 (pc := 18) ha C tf_X0_15 dX0_sendHome_18 ?_
      refine J.iload_n (pc := 21) C dX0_sendHome_21 rfl rfl ?_
      refine J.iconst (pc := 22) C 1 dX0_sendHome_22 ic_1 ?_
      refine J.iadd (pc := 23) C dX0_sendHome_23 ?_
      refine J.callS2i (pc := 24) C (K_X4_at (ia_al2 q cI ha) _ _) lk_X4_at tm_X0_47 ⟨Nat.le_of_ble_eq_true rfl, Nat.le_of_ble_eq_true rfl⟩ (Nat.le_of_ble_eq_true rfl) dX0_sendHome_24 ?_
      refine J.callS3v (pc := 27) C (K_X4_put (ia_al2 q cI ha) _ _ _) lk_X4_put tm_X0_30 ⟨Nat.le_of_ble_eq_true rfl, Nat.le_of_ble_eq_true rfl⟩ (Nat.le_of_ble_eq_true rfl) dX0_sendHome_27 ?_
      obtain ⟨_, ea, hM⟩ := lt_ex hM
      refine J.cong C ea ?_
      refine J.aload_n (pc := 30) C dX0_sendHome_30 rfl rfl ?_
      refine gf_X0_2 (pc := 31) ha C tf_X0_18 dX0_sendHome_31 ?_
      refine J.iload_n (pc := 34) C dX0_sendHome_34 rfl rfl ?_
      refine J.aload_n (pc := 35) C dX0_sendHome_35 rfl rfl ?_
      refine gf_X0_2 (pc := 36) ha C tf_X0_18 dX0_sendHome_36 ?_
      refine J.iload_n (pc := 39) C dX0_sendHome_39 rfl rfl ?_
      refine J.iconst (pc := 40) C 1 dX0_sendHome_40 ic_1 ?_
      refine J.iadd (pc := 41) C dX0_sendHome_41 ?_
      refine J.callS2i (pc := 42) C (K_X4_at (ia_al3 q cI ha) _ _) lk_X4_at tm_X0_47 ⟨Nat.le_of_ble_eq_true rfl, Nat.le_of_ble_eq_true rfl⟩ (Nat.le_of_ble_eq_true rfl) dX0_sendHome_42 ?_
      refine J.callS3v (pc := 45) C (K_X4_put (ia_al3 q cI ha) _ _ _) lk_X4_put tm_X0_30 ⟨Nat.le_of_ble_eq_true rfl, Nat.le_of_ble_eq_true rfl⟩ (Nat.le_of_ble_eq_true rfl) dX0_sendHome_45 ?_
      obtain ⟨_, ea, hM⟩ := lt_ex hM
      refine J.cong C ea ?_
      refine J.aload_n (pc := 48) C dX0_sendHome_48 rfl rfl ?_
      refine gf_X0_3 (pc := 49) ha C tf_X0_21 dX0_sendHome_49 ?_
      refine J.iload_n (pc := 52) C dX0_sendHome_52 rfl rfl ?_
      refine J.aload_n (pc := 53) C dX0_sendHome_53 rfl rfl ?_
      refine gf_X0_3 (pc := 54) ha C tf_X0_21 dX0_sendHome_54 ?_
      refine J.iload_n (pc := 57) C dX0_sendHome_57 rfl rfl ?_
      refine J.iconst (pc := 58) C 1 dX0_sendHome_58 ic_1 ?_
      refine J.iadd (pc := 59) C dX0_sendHome_59 ?_
      refine J.callS2i (pc := 60) C (K_X4_at (ia_al4 q cI ha) _ _) lk_X4_at tm_X0_47 ⟨Nat.le_of_ble_eq_true rfl, Nat.le_of_ble_eq_true rfl⟩ (Nat.le_of_ble_eq_true rfl) dX0_sendHome_60 ?_
      refine J.callS3v (pc := 63) C (K_X4_put (ia_al4 q cI ha) _ _ _) lk_X4_put tm_X0_30 ⟨Nat.le_of_ble_eq_true rfl, Nat.le_of_ble_eq_true rfl⟩ (Nat.le_of_ble_eq_true rfl) dX0_sendHome_63 ?_
      obtain ⟨_, ea, hM⟩ := lt_ex hM
      refine J.cong C ea ?_
      refine J.aload_n (pc := 66) C dX0_sendHome_66 rfl rfl ?_
      refine gf_X0_4 (pc := 67) ha C tf_X0_24 dX0_sendHome_67 ?_
      refine J.iload_n (pc := 70) C dX0_sendHome_70 rfl rfl ?_
      refine J.aload_n (pc := 71) C dX0_sendHome_71 rfl rfl ?_
      refine gf_X0_4 (pc := 72) ha C tf_X0_24 dX0_sendHome_72 ?_
      refine J.iload_n (pc := 75) C dX0_sendHome_75 rfl rfl ?_
      refine J.iconst (pc := 76) C 1 dX0_sendHome_76 ic_1 ?_
      refine J.iadd (pc := 77) C dX0_sendHome_77 ?_
      refine J.callS2i (pc := 78) C (K_X4_at (ia_al5 q cI ha) _ _) lk_X4_at tm_X0_47 ⟨Nat.le_of_ble_eq_true rfl, Nat.le_of_ble_eq_true rfl⟩ (Nat.le_of_ble_eq_true rfl) dX0_sendHome_78 ?_
      refine J.callS3v (pc := 81) C (K_X4_put (ia_al5 q cI ha) _ _ _) lk_X4_put tm_X0_30 ⟨Nat.le_of_ble_eq_true rfl, Nat.le_of_ble_eq_true rfl⟩ (Nat.le_of_ble_eq_true rfl) dX0_sendHome_81 ?_
      obtain ⟨_, ea, hM⟩ := lt_ex hM
      refine J.cong C ea ?_
      refine J.aload_n (pc := 84) C dX0_sendHome_84 rfl rfl ?_
      refine gf_X0_5 (pc := 85) ha C tf_X0_27 dX0_sendHome_85 ?_
      refine J.iload_n (pc := 88) C dX0_sendHome_88 rfl rfl ?_
      refine J.aload_n (pc := 89) C dX0_sendHome_89 rfl rfl ?_
      refine gf_X0_5 (pc := 90) ha C tf_X0_27 dX0_sendHome_90 ?_
      refine J.iload_n (pc := 93) C dX0_sendHome_93 rfl rfl ?_
      refine J.iconst (pc := 94) C 1 dX0_sendHome_94 ic_1 ?_
      refine J.iadd (pc := 95) C dX0_sendHome_95 ?_
      refine J.callS2i (pc := 96) C (K_X4_at (ia_al6 q cI ha) _ _) lk_X4_at tm_X0_47 ⟨Nat.le_of_ble_eq_true rfl, Nat.le_of_ble_eq_true rfl⟩ (Nat.le_of_ble_eq_true rfl) dX0_sendHome_96 ?_
      refine J.callS3v (pc := 99) C (K_X4_put (ia_al6 q cI ha) _ _ _) lk_X4_put tm_X0_30 ⟨Nat.le_of_ble_eq_true rfl, Nat.le_of_ble_eq_true rfl⟩ (Nat.le_of_ble_eq_true rfl) dX0_sendHome_99 ?_
      obtain ⟨_, ea, hM⟩ := lt_ex hM
      refine J.cong C ea ?_
      refine J.iinc (pc := 102) C 1 dX0_sendHome_102 ic_1 rfl (by decide) ?_
      refine J.goto (pc := 105) C 2 dX0_sendHome_105 (by decide) ?_
      refine J.sub C [0, 1, 2] rfl ?_
      exact hkb2 _ _ _ hM
  have jl2 : ∀ (x1 x2 : Int32) (g : Sg), lup2 (B_X0_sendHome_2 a) FU x1 x2 g = some r → J p l e (RM 1 22) s m args below meth c D (cW q cI) A 3 Q g 2 [(0, .ref (q a)), (1, .int x1), (2, .int x2)] [] := 
    lup2_ok (P := fun x1 x2 g => J p l e (RM 1 22) s m args below meth c D (cW q cI) A 3 Q g 2 [(0, .ref (q a)), (1, .int x1), (2, .int x2)] []) (fun self hself => jb2 self hself) FU
  have hM := h
  unfold M_X0_sendHome at hM
  refine J.iload_n (pc := 0) C dX0_sendHome_0 rfl rfl ?_
  refine J.istore_n (pc := 1) C dX0_sendHome_1 rfl (by decide) ?_
  refine J.sub C [0, 1, 2] rfl ?_
  exact jl2 _ _ _ hM
def B_X0_drawHours_4 (a : Nat) (kb4 : Int32 → Int32 → Sg → Option (Int32 × Sg)) (x2 x3 : Int32) (g : Sg) : Option (Int32 × Sg) := (if (g.1 a) ≤ x3 then some (x2, g) else lt (rput g (a + 6) 7 x3 (((((x2 * 1664525) + 1013904223) &&& 2147483647) / 256) - ((((x2 * 1664525) + 1013904223) &&& 2147483647) / 256) / 12 * 12)) (fun g_1 => kb4 ((x2 * 1664525) + 1013904223) (x3 + 1) g_1))
def M_X0_drawHours (a : Nat) (x1 : Int32) (g : Sg) : Option (Int32 × Sg) := lup2 (B_X0_drawHours_4 a ) FU x1 0 g
set_option maxRecDepth 100000 in
set_option maxHeartbeats 4000000 in
theorem C_X0_drawHours {l : Launch} {D : va_G} {q : Nat → Nat} {cI : ClassId} {z : Nat} {a : Nat} (ha : isAl a) {x1 : Int32} {g : Sg} {r : Int32 × Sg} (h : M_X0_drawHours a x1 g = some r) : CTi l (EC z) D cI (cW q cI) yX0_drawHours cX0_drawHours 4 (some .int) 1 22 [.ref (q a), .int x1] g r := by
  refine CTi.of2 (by decide) (EC_ok z) (Nat.le_of_ble_eq_true rfl) rfl (fun p e s m args below meth c A Q C hret => ?_)
  have jb4 : ∀ (kb4 : Int32 → Int32 → Sg → Option (Int32 × Sg)) (hkb4 : ∀ (x2 x3 : Int32) (g : Sg), kb4 x2 x3 g = some r → J p l e (RM 1 22) s m args below meth c D (cW q cI) A 4 Q g 4 [(0, .ref (q a)), (2, .int x2), (3, .int x3)] []) (x2 x3 : Int32) (g : Sg), B_X0_drawHours_4 a kb4 x2 x3 g = some r → J p l e (RM 1 22) s m args below meth c D (cW q cI) A 4 Q g 4 [(0, .ref (q a)), (2, .int x2), (3, .int x3)] [] := by
    intro kb4 hkb4 x2 x3 g hM
    unfold B_X0_drawHours_4 at hM
    refine J.iload_n (pc := 4) C dX0_drawHours_4 rfl rfl ?_
    refine J.aload_n (pc := 5) C dX0_drawHours_5 rfl rfl ?_
    refine gf_X0_6 (pc := 6) ha C tf_X0_36 dX0_drawHours_6 ?_
    refine J.icmp_ge (pc := 9) C 45 dX0_drawHours_9 (by decide) (fun hc => ?_) (fun hc => ?_)
    · have hM := ite_t hc hM
      refine J.iload_n (pc := 45) C dX0_drawHours_45 rfl rfl ?_
      exact hret dX0_drawHours_46 hM rfl
    · have hM := ite_f hc hM
      refine J.iload_n (pc := 12) C dX0_drawHours_12 rfl rfl ?_
      refine J.ldc (pc := 13) C tc_X0_61 dX0_drawHours_13 ?_
      refine J.imul (pc := 15) C dX0_drawHours_15 ?_
      refine J.ldc (pc := 16) C tc_X0_62 dX0_drawHours_16 ?_
      refine J.iadd (pc := 18) C dX0_drawHours_18 ?_
      refine J.istore_n (pc := 19) C dX0_drawHours_19 rfl (by decide) ?_
      refine J.aload_n (pc := 20) C dX0_drawHours_20 rfl rfl ?_
      refine gf_X0_5 (pc := 21) ha C tf_X0_27 dX0_drawHours_21 ?_
      refine J.iload_n (pc := 24) C dX0_drawHours_24 rfl rfl ?_
      refine J.iload_n (pc := 25) C dX0_drawHours_25 rfl rfl ?_
      refine J.ldc (pc := 26) C tc_X0_65 dX0_drawHours_26 ?_
      refine J.iand (pc := 28) C dX0_drawHours_28 ?_
      refine J.sipush (pc := 29) C 256 dX0_drawHours_29 sp_256 ?_
      refine J.idiv (pc := 32) C dX0_drawHours_32 (by decide) ?_
      refine J.bipush (pc := 33) C 12 dX0_drawHours_33 bp_12 ?_
      refine J.irem (pc := 35) C dX0_drawHours_35 (by decide) ?_
      refine J.callS3v (pc := 36) C (K_X4_put (ia_al6 q cI ha) _ _ _) lk_X4_put tm_X0_30 ⟨Nat.le_of_ble_eq_true rfl, Nat.le_of_ble_eq_true rfl⟩ (Nat.le_of_ble_eq_true rfl) dX0_drawHours_36 ?_
      obtain ⟨_, ea, hM⟩ := lt_ex hM
      refine J.cong C ea ?_
      refine J.iinc (pc := 39) C 1 dX0_drawHours_39 ic_1 rfl (by decide) ?_
      refine J.goto (pc := 42) C 4 dX0_drawHours_42 (by decide) ?_
      refine J.sub C [0, 2, 3] rfl ?_
      exact hkb4 _ _ _ hM
  have jl4 : ∀ (x2 x3 : Int32) (g : Sg), lup2 (B_X0_drawHours_4 a) FU x2 x3 g = some r → J p l e (RM 1 22) s m args below meth c D (cW q cI) A 4 Q g 4 [(0, .ref (q a)), (2, .int x2), (3, .int x3)] [] := 
    lup2_ok (P := fun x2 x3 g => J p l e (RM 1 22) s m args below meth c D (cW q cI) A 4 Q g 4 [(0, .ref (q a)), (2, .int x2), (3, .int x3)] []) (fun self hself => jb4 self hself) FU
  have hM := h
  unfold M_X0_drawHours at hM
  refine J.iload_n (pc := 0) C dX0_drawHours_0 rfl rfl ?_
  refine J.istore_n (pc := 1) C dX0_drawHours_1 rfl (by decide) ?_
  refine J.iconst (pc := 2) C 0 dX0_drawHours_2 ic_0 ?_
  refine J.istore_n (pc := 3) C dX0_drawHours_3 rfl (by decide) ?_
  refine J.sub C [0, 2, 3] rfl ?_
  exact jl4 _ _ _ hM
def M_X0_stepsOf (a : Nat) (x1 : Int32) (g : Sg) : Option (Int32 × Sg) := some (iabs ((rat g (a + 4) 7 x1) - (rat g (a + 5) 7 x1)), g)
set_option maxRecDepth 100000 in
set_option maxHeartbeats 4000000 in
theorem C_X0_stepsOf {l : Launch} {D : va_G} {q : Nat → Nat} {cI : ClassId} {z : Nat} {a : Nat} (ha : isAl a) {x1 : Int32} {g : Sg} {r : Int32 × Sg} (h : M_X0_stepsOf a x1 g = some r) : CTi l (EC z) D cI (cW q cI) yX0_stepsOf cX0_stepsOf 2 (some .int) 1 24 [.ref (q a), .int x1] g r := by
  refine CTi.of2 (by decide) (EC_ok z) (Nat.le_of_ble_eq_true rfl) rfl (fun p e s m args below meth c A Q C hret => ?_)
  have hM := h
  unfold M_X0_stepsOf at hM
  refine J.aload_n (pc := 0) C dX0_stepsOf_0 rfl rfl ?_
  refine gf_X0_3 (pc := 1) ha C tf_X0_21 dX0_stepsOf_1 ?_
  refine J.iload_n (pc := 4) C dX0_stepsOf_4 rfl rfl ?_
  refine J.callS2i (pc := 5) C (K_X4_at (ia_al4 q cI ha) _ _) lk_X4_at tm_X0_47 ⟨Nat.le_of_ble_eq_true rfl, Nat.le_of_ble_eq_true rfl⟩ (Nat.le_of_ble_eq_true rfl) dX0_stepsOf_5 ?_
  refine J.aload_n (pc := 8) C dX0_stepsOf_8 rfl rfl ?_
  refine gf_X0_4 (pc := 9) ha C tf_X0_24 dX0_stepsOf_9 ?_
  refine J.iload_n (pc := 12) C dX0_stepsOf_12 rfl rfl ?_
  refine J.callS2i (pc := 13) C (K_X4_at (ia_al5 q cI ha) _ _) lk_X4_at tm_X0_47 ⟨Nat.le_of_ble_eq_true rfl, Nat.le_of_ble_eq_true rfl⟩ (Nat.le_of_ble_eq_true rfl) dX0_stepsOf_13 ?_
  refine J.isub (pc := 16) C dX0_stepsOf_16 ?_
  refine J.mabs (pc := 17) C tm_X0_66 (Nat.le_of_ble_eq_true rfl) (Nat.le_of_ble_eq_true rfl) dX0_stepsOf_17 ?_
  exact hret dX0_stepsOf_20 hM rfl
def V_X0_stepsOf (a : Nat) (x1 : Int32) (g : Sg) : Int32 := iabs ((rat g (a + 4) 7 x1) - (rat g (a + 5) 7 x1))
theorem E_X0_stepsOf (a : Nat) (x1 : Int32) (g : Sg) : M_X0_stepsOf a x1 g = some (V_X0_stepsOf a x1 g, g) := by
  unfold M_X0_stepsOf V_X0_stepsOf
  first | rfl | ((try dsimp only [lt]); (repeat' split) <;> rfl)
theorem K_X0_stepsOf {l : Launch} {D : va_G} {q : Nat → Nat} {cI : ClassId} {z : Nat} {a : Nat} (ha : isAl a) (x1 : Int32) (g : Sg) : CTi l (EC z) D cI (cW q cI) yX0_stepsOf cX0_stepsOf 2 (some .int) 1 24 [.ref (q a), .int x1] g (V_X0_stepsOf a x1 g, g) := C_X0_stepsOf ha (E_X0_stepsOf a x1 g)
def B_X0_allSteps_4 (a : Nat) (kb4 : Int32 → Int32 → Sg → Option (Int32 × Sg)) (x1 x2 : Int32) (g : Sg) : Option (Int32 × Sg) := (if (g.1 a) ≤ x2 then some (x1, g) else lt (x1 + (V_X0_stepsOf a x2 g)) (fun x1_1 => kb4 x1_1 (x2 + 1) g))
def M_X0_allSteps (a : Nat) (g : Sg) : Option (Int32 × Sg) := lup2 (B_X0_allSteps_4 a ) FU 0 0 g
set_option maxRecDepth 100000 in
set_option maxHeartbeats 4000000 in
theorem C_X0_allSteps {l : Launch} {D : va_G} {q : Nat → Nat} {cI : ClassId} {z : Nat} {a : Nat} (ha : isAl a) {g : Sg} {r : Int32 × Sg} (h : M_X0_allSteps a g = some r) : CTi l (EC z) D cI (cW q cI) yX0_allSteps cX0_allSteps 3 (some .int) 2 45 [.ref (q a)] g r := by
  refine CTi.of2 (by decide) (EC_ok z) (Nat.le_of_ble_eq_true rfl) rfl (fun p e s m args below meth c A Q C hret => ?_)
  have jb4 : ∀ (kb4 : Int32 → Int32 → Sg → Option (Int32 × Sg)) (hkb4 : ∀ (x1 x2 : Int32) (g : Sg), kb4 x1 x2 g = some r → J p l e (RM 2 45) s m args below meth c D (cW q cI) A 3 Q g 4 [(0, .ref (q a)), (1, .int x1), (2, .int x2)] []) (x1 x2 : Int32) (g : Sg), B_X0_allSteps_4 a kb4 x1 x2 g = some r → J p l e (RM 2 45) s m args below meth c D (cW q cI) A 3 Q g 4 [(0, .ref (q a)), (1, .int x1), (2, .int x2)] [] := by
    intro kb4 hkb4 x1 x2 g hM
    unfold B_X0_allSteps_4 at hM
    refine J.iload_n (pc := 4) C dX0_allSteps_4 rfl rfl ?_
    refine J.aload_n (pc := 5) C dX0_allSteps_5 rfl rfl ?_
    refine gf_X0_6 (pc := 6) ha C tf_X0_36 dX0_allSteps_6 ?_
    refine J.icmp_ge (pc := 9) C 26 dX0_allSteps_9 (by decide) (fun hc => ?_) (fun hc => ?_)
    · have hM := ite_t hc hM
      refine J.iload_n (pc := 26) C dX0_allSteps_26 rfl rfl ?_
      exact hret dX0_allSteps_27 hM rfl
    · have hM := ite_f hc hM
      refine J.iload_n (pc := 12) C dX0_allSteps_12 rfl rfl ?_
      refine J.aload_n (pc := 13) C dX0_allSteps_13 rfl rfl ?_
      refine J.iload_n (pc := 14) C dX0_allSteps_14 rfl rfl ?_
      refine J.callV1i (pc := 15) C (K_X0_stepsOf ha _ _) lk_X0_stepsOf tm_X0_72 (io_al q cI ha) ⟨Nat.le_of_ble_eq_true rfl, Nat.le_of_ble_eq_true rfl⟩ (Nat.le_of_ble_eq_true rfl) dX0_allSteps_15 ?_
      refine J.iadd (pc := 18) C dX0_allSteps_18 ?_
      obtain ⟨_, ea, hM⟩ := lt_ex hM
      refine J.istore_nV (pc := 19) C dX0_allSteps_19 rfl (by decide) ea ?_
      refine J.iinc (pc := 20) C 1 dX0_allSteps_20 ic_1 rfl (by decide) ?_
      refine J.goto (pc := 23) C 4 dX0_allSteps_23 (by decide) ?_
      refine J.sub C [0, 1, 2] rfl ?_
      exact hkb4 _ _ _ hM
  have jl4 : ∀ (x1 x2 : Int32) (g : Sg), lup2 (B_X0_allSteps_4 a) FU x1 x2 g = some r → J p l e (RM 2 45) s m args below meth c D (cW q cI) A 3 Q g 4 [(0, .ref (q a)), (1, .int x1), (2, .int x2)] [] := 
    lup2_ok (P := fun x1 x2 g => J p l e (RM 2 45) s m args below meth c D (cW q cI) A 3 Q g 4 [(0, .ref (q a)), (1, .int x1), (2, .int x2)] []) (fun self hself => jb4 self hself) FU
  have hM := h
  unfold M_X0_allSteps at hM
  refine J.iconst (pc := 0) C 0 dX0_allSteps_0 ic_0 ?_
  refine J.istore_n (pc := 1) C dX0_allSteps_1 rfl (by decide) ?_
  refine J.iconst (pc := 2) C 0 dX0_allSteps_2 ic_0 ?_
  refine J.istore_n (pc := 3) C dX0_allSteps_3 rfl (by decide) ?_
  refine J.sub C [0, 1, 2] rfl ?_
  exact jl4 _ _ _ hM
def B_X0_anybodyWithin_2 (a : Nat) (kb2 : Int32 → Int32 → Int32 → Sg → Option (Int32 × Sg)) (x1 x2 x3 : Int32) (g : Sg) : Option (Int32 × Sg) := (if (g.1 a) ≤ x3 then some (0, g) else (if (iabs ((rat g (a + 4) 7 x3) - x2)) ≤ x1 then some (1, g) else (if x1 < (iabs ((rat g (a + 5) 7 x3) - x2)) then kb2 x1 x2 (x3 + 1) g else some (1, g))))
def M_X0_anybodyWithin (a : Nat) (x1 x2 : Int32) (g : Sg) : Option (Int32 × Sg) := lup3 (B_X0_anybodyWithin_2 a ) FU x1 x2 0 g
set_option maxRecDepth 100000 in
set_option maxHeartbeats 4000000 in
theorem C_X0_anybodyWithin {l : Launch} {D : va_G} {q : Nat → Nat} {cI : ClassId} {z : Nat} {a : Nat} (ha : isAl a) {x1 x2 : Int32} {g : Sg} {r : Int32 × Sg} (h : M_X0_anybodyWithin a x1 x2 g = some r) : CTi l (EC z) D cI (cW q cI) yX0_anybodyWithin cX0_anybodyWithin 4 (some .boolean) 1 24 [.ref (q a), .int x1, .int x2] g r := by
  refine CTi.of2 (by decide) (EC_ok z) (Nat.le_of_ble_eq_true rfl) rfl (fun p e s m args below meth c A Q C hret => ?_)
  have jb2 : ∀ (kb2 : Int32 → Int32 → Int32 → Sg → Option (Int32 × Sg)) (hkb2 : ∀ (x1 x2 x3 : Int32) (g : Sg), kb2 x1 x2 x3 g = some r → J p l e (RM 1 24) s m args below meth c D (cW q cI) A 4 Q g 2 [(0, .ref (q a)), (1, .int x1), (2, .int x2), (3, .int x3)] []) (x1 x2 x3 : Int32) (g : Sg), B_X0_anybodyWithin_2 a kb2 x1 x2 x3 g = some r → J p l e (RM 1 24) s m args below meth c D (cW q cI) A 4 Q g 2 [(0, .ref (q a)), (1, .int x1), (2, .int x2), (3, .int x3)] [] := by
    intro kb2 hkb2 x1 x2 x3 g hM
    unfold B_X0_anybodyWithin_2 at hM
    refine J.iload_n (pc := 2) C dX0_anybodyWithin_2 rfl rfl ?_
    refine J.aload_n (pc := 3) C dX0_anybodyWithin_3 rfl rfl ?_
    refine gf_X0_6 (pc := 4) ha C tf_X0_36 dX0_anybodyWithin_4 ?_
    refine J.icmp_ge (pc := 7) C 52 dX0_anybodyWithin_7 (by decide) (fun hc => ?_) (fun hc => ?_)
    · have hM := ite_t hc hM
      refine J.iconst (pc := 52) C 0 dX0_anybodyWithin_52 ic_0 ?_
      exact hret dX0_anybodyWithin_53 hM (by decide)
    · have hM := ite_f hc hM
      refine J.aload_n (pc := 10) C dX0_anybodyWithin_10 rfl rfl ?_
      refine gf_X0_3 (pc := 11) ha C tf_X0_21 dX0_anybodyWithin_11 ?_
      refine J.iload_n (pc := 14) C dX0_anybodyWithin_14 rfl rfl ?_
      refine J.callS2i (pc := 15) C (K_X4_at (ia_al4 q cI ha) _ _) lk_X4_at tm_X0_47 ⟨Nat.le_of_ble_eq_true rfl, Nat.le_of_ble_eq_true rfl⟩ (Nat.le_of_ble_eq_true rfl) dX0_anybodyWithin_15 ?_
      refine J.iload_n (pc := 18) C dX0_anybodyWithin_18 rfl rfl ?_
      refine J.isub (pc := 19) C dX0_anybodyWithin_19 ?_
      refine J.mabs (pc := 20) C tm_X0_66 (Nat.le_of_ble_eq_true rfl) (Nat.le_of_ble_eq_true rfl) dX0_anybodyWithin_20 ?_
      refine J.iload_n (pc := 23) C dX0_anybodyWithin_23 rfl rfl ?_
      refine J.icmp_le (pc := 24) C 44 dX0_anybodyWithin_24 (by decide) (fun hc => ?_) (fun hc => ?_)
      · have hM := ite_t hc hM
        refine J.iconst (pc := 44) C 1 dX0_anybodyWithin_44 ic_1 ?_
        exact hret dX0_anybodyWithin_45 hM (by decide)
      · have hM := ite_f hc hM
        refine J.aload_n (pc := 27) C dX0_anybodyWithin_27 rfl rfl ?_
        refine gf_X0_4 (pc := 28) ha C tf_X0_24 dX0_anybodyWithin_28 ?_
        refine J.iload_n (pc := 31) C dX0_anybodyWithin_31 rfl rfl ?_
        refine J.callS2i (pc := 32) C (K_X4_at (ia_al5 q cI ha) _ _) lk_X4_at tm_X0_47 ⟨Nat.le_of_ble_eq_true rfl, Nat.le_of_ble_eq_true rfl⟩ (Nat.le_of_ble_eq_true rfl) dX0_anybodyWithin_32 ?_
        refine J.iload_n (pc := 35) C dX0_anybodyWithin_35 rfl rfl ?_
        refine J.isub (pc := 36) C dX0_anybodyWithin_36 ?_
        refine J.mabs (pc := 37) C tm_X0_66 (Nat.le_of_ble_eq_true rfl) (Nat.le_of_ble_eq_true rfl) dX0_anybodyWithin_37 ?_
        refine J.iload_n (pc := 40) C dX0_anybodyWithin_40 rfl rfl ?_
        refine J.icmp_gt (pc := 41) C 46 dX0_anybodyWithin_41 (by decide) (fun hc => ?_) (fun hc => ?_)
        · have hM := ite_t hc hM
          refine J.iinc (pc := 46) C 1 dX0_anybodyWithin_46 ic_1 rfl (by decide) ?_
          refine J.goto (pc := 49) C 2 dX0_anybodyWithin_49 (by decide) ?_
          refine J.sub C [0, 1, 2, 3] rfl ?_
          exact hkb2 _ _ _ _ hM
        · have hM := ite_f hc hM
          refine J.iconst (pc := 44) C 1 dX0_anybodyWithin_44 ic_1 ?_
          exact hret dX0_anybodyWithin_45 hM (by decide)
  have jl2 : ∀ (x1 x2 x3 : Int32) (g : Sg), lup3 (B_X0_anybodyWithin_2 a) FU x1 x2 x3 g = some r → J p l e (RM 1 24) s m args below meth c D (cW q cI) A 4 Q g 2 [(0, .ref (q a)), (1, .int x1), (2, .int x2), (3, .int x3)] [] := 
    lup3_ok (P := fun x1 x2 x3 g => J p l e (RM 1 24) s m args below meth c D (cW q cI) A 4 Q g 2 [(0, .ref (q a)), (1, .int x1), (2, .int x2), (3, .int x3)] []) (fun self hself => jb2 self hself) FU
  have hM := h
  unfold M_X0_anybodyWithin at hM
  refine J.iconst (pc := 0) C 0 dX0_anybodyWithin_0 ic_0 ?_
  refine J.istore_n (pc := 1) C dX0_anybodyWithin_1 rfl (by decide) ?_
  refine J.sub C [0, 1, 2, 3] rfl ?_
  exact jl2 _ _ _ _ hM
def M_X0_fetches (a : Nat) (x1 : Int32) (g : Sg) : Option (Int32 × Sg) := (if (rat g (a + 2) 7 x1) = 1 then some (0, g) else if (rat g (a + 2) 7 x1) = 2 then some (39, g) else if (rat g (a + 2) 7 x1) = 3 then some (6 + (rat g (a + 3) 7 x1), g) else some (6, g))
set_option maxRecDepth 100000 in
set_option maxHeartbeats 4000000 in
theorem C_X0_fetches {l : Launch} {D : va_G} {q : Nat → Nat} {cI : ClassId} {z : Nat} {a : Nat} (ha : isAl a) {x1 : Int32} {g : Sg} {r : Int32 × Sg} (h : M_X0_fetches a x1 g = some r) : CTi l (EC z) D cI (cW q cI) yX0_fetches cX0_fetches 2 (some .int) 1 21 [.ref (q a), .int x1] g r := by
  refine CTi.of2 (by decide) (EC_ok z) (Nat.le_of_ble_eq_true rfl) rfl (fun p e s m args below meth c A Q C hret => ?_)
  have hM := h
  unfold M_X0_fetches at hM
  refine J.aload_n (pc := 0) C dX0_fetches_0 rfl rfl ?_
  refine gf_X0_1 (pc := 1) ha C tf_X0_15 dX0_fetches_1 ?_
  refine J.iload_n (pc := 4) C dX0_fetches_4 rfl rfl ?_
  refine J.callS2i (pc := 5) C (K_X4_at (ia_al2 q cI ha) _ _) lk_X4_at tm_X0_47 ⟨Nat.le_of_ble_eq_true rfl, Nat.le_of_ble_eq_true rfl⟩ (Nat.le_of_ble_eq_true rfl) dX0_fetches_5 ?_
  refine J.case (pc := 8) C 1 (fun hs0 => ?_) (fun hs0 => ?_)
  · have hM := ite_t hs0 hM
    refine J.tabIn (pc := 8) C 1 36 dX0_fetches_8 hs0 (by decide) (by decide) rfl (by decide) ?_
    refine J.iconst (pc := 36) C 0 dX0_fetches_36 ic_0 ?_
    exact hret dX0_fetches_37 hM rfl
  · have hM := ite_f hs0 hM
    refine J.case (pc := 8) C 2 (fun hs1 => ?_) (fun hs1 => ?_)
    · have hM := ite_t hs1 hM
      refine J.tabIn (pc := 8) C 2 38 dX0_fetches_8 hs1 (by decide) (by decide) rfl (by decide) ?_
      refine J.bipush (pc := 38) C 39 dX0_fetches_38 bp_39 ?_
      exact hret dX0_fetches_40 hM rfl
    · have hM := ite_f hs1 hM
      refine J.case (pc := 8) C 3 (fun hs2 => ?_) (fun hs2 => ?_)
      · have hM := ite_t hs2 hM
        refine J.tabIn (pc := 8) C 3 41 dX0_fetches_8 hs2 (by decide) (by decide) rfl (by decide) ?_
        refine J.bipush (pc := 41) C 6 dX0_fetches_41 bp_6 ?_
        refine J.aload_n (pc := 43) C dX0_fetches_43 rfl rfl ?_
        refine gf_X0_2 (pc := 44) ha C tf_X0_18 dX0_fetches_44 ?_
        refine J.iload_n (pc := 47) C dX0_fetches_47 rfl rfl ?_
        refine J.callS2i (pc := 48) C (K_X4_at (ia_al3 q cI ha) _ _) lk_X4_at tm_X0_47 ⟨Nat.le_of_ble_eq_true rfl, Nat.le_of_ble_eq_true rfl⟩ (Nat.le_of_ble_eq_true rfl) dX0_fetches_48 ?_
        refine J.iadd (pc := 51) C dX0_fetches_51 ?_
        exact hret dX0_fetches_52 hM rfl
      · have hM := ite_f hs2 hM
        refine J.tabOut (pc := 8) C 53 dX0_fetches_8 (by have c0 := i_ne 1 rfl hs0; have c1 := i_ne 2 rfl hs1; have c2 := i_ne 3 rfl hs2; omega) (by decide) ?_
        refine J.bipush (pc := 53) C 6 dX0_fetches_53 bp_6 ?_
        exact hret dX0_fetches_55 hM rfl
def V_X0_fetches (a : Nat) (x1 : Int32) (g : Sg) : Int32 := (if (rat g (a + 2) 7 x1) = 1 then 0 else if (rat g (a + 2) 7 x1) = 2 then 39 else if (rat g (a + 2) 7 x1) = 3 then 6 + (rat g (a + 3) 7 x1) else 6)
theorem E_X0_fetches (a : Nat) (x1 : Int32) (g : Sg) : M_X0_fetches a x1 g = some (V_X0_fetches a x1 g, g) := by
  unfold M_X0_fetches V_X0_fetches
  first | rfl | ((try dsimp only [lt]); (repeat' split) <;> rfl)
theorem K_X0_fetches {l : Launch} {D : va_G} {q : Nat → Nat} {cI : ClassId} {z : Nat} {a : Nat} (ha : isAl a) (x1 : Int32) (g : Sg) : CTi l (EC z) D cI (cW q cI) yX0_fetches cX0_fetches 2 (some .int) 1 21 [.ref (q a), .int x1] g (V_X0_fetches a x1 g, g) := C_X0_fetches ha (E_X0_fetches a x1 g)
def M_X0_darkStepCosts (a : Nat) (x1 : Int32) (g : Sg) : Option (Int32 × Sg) := (if (rat g (a + 2) 7 x1) = 1 then some ((V_X0_dark a g) / 2, g) else if (rat g (a + 2) 7 x1) = 2 then some (2 * (V_X0_dark a g), g) else if (rat g (a + 2) 7 x1) = 3 then some ((V_X0_dark a g) + 1, g) else if (rat g (a + 2) 7 x1) = 4 then some (0, g) else if (rat g (a + 2) 7 x1) = 5 then some (0, g) else some (V_X0_dark a g, g))
set_option maxRecDepth 100000 in
set_option maxHeartbeats 4000000 in
theorem C_X0_darkStepCosts {l : Launch} {D : va_G} {q : Nat → Nat} {cI : ClassId} {z : Nat} {a : Nat} (ha : isAl a) {x1 : Int32} {g : Sg} {r : Int32 × Sg} (h : M_X0_darkStepCosts a x1 g = some r) : CTi l (EC z) D cI (cW q cI) yX0_darkStepCosts cX0_darkStepCosts 2 (some .int) 2 41 [.ref (q a), .int x1] g r := by
  refine CTi.of2 (by decide) (EC_ok z) (Nat.le_of_ble_eq_true rfl) rfl (fun p e s m args below meth c A Q C hret => ?_)
  have hM := h
  unfold M_X0_darkStepCosts at hM
  refine J.aload_n (pc := 0) C dX0_darkStepCosts_0 rfl rfl ?_
  refine gf_X0_1 (pc := 1) ha C tf_X0_15 dX0_darkStepCosts_1 ?_
  refine J.iload_n (pc := 4) C dX0_darkStepCosts_4 rfl rfl ?_
  refine J.callS2i (pc := 5) C (K_X4_at (ia_al2 q cI ha) _ _) lk_X4_at tm_X0_47 ⟨Nat.le_of_ble_eq_true rfl, Nat.le_of_ble_eq_true rfl⟩ (Nat.le_of_ble_eq_true rfl) dX0_darkStepCosts_5 ?_
  refine J.case (pc := 8) C 1 (fun hs0 => ?_) (fun hs0 => ?_)
  · have hM := ite_t hs0 hM
    refine J.tabIn (pc := 8) C 1 44 dX0_darkStepCosts_8 hs0 (by decide) (by decide) rfl (by decide) ?_
    refine J.aload_n (pc := 44) C dX0_darkStepCosts_44 rfl rfl ?_
    refine J.callV0i (pc := 45) C (K_X0_dark ha _) lk_X0_dark tm_X0_75 (io_al q cI ha) ⟨Nat.le_of_ble_eq_true rfl, Nat.le_of_ble_eq_true rfl⟩ (Nat.le_of_ble_eq_true rfl) dX0_darkStepCosts_45 ?_
    refine J.iconst (pc := 48) C 2 dX0_darkStepCosts_48 ic_2 ?_
    refine J.idiv (pc := 49) C dX0_darkStepCosts_49 (by decide) ?_
    exact hret dX0_darkStepCosts_50 hM rfl
  · have hM := ite_f hs0 hM
    refine J.case (pc := 8) C 2 (fun hs1 => ?_) (fun hs1 => ?_)
    · have hM := ite_t hs1 hM
      refine J.tabIn (pc := 8) C 2 51 dX0_darkStepCosts_8 hs1 (by decide) (by decide) rfl (by decide) ?_
      refine J.iconst (pc := 51) C 2 dX0_darkStepCosts_51 ic_2 ?_
      refine J.aload_n (pc := 52) C dX0_darkStepCosts_52 rfl rfl ?_
      refine J.callV0i (pc := 53) C (K_X0_dark ha _) lk_X0_dark tm_X0_75 (io_al q cI ha) ⟨Nat.le_of_ble_eq_true rfl, Nat.le_of_ble_eq_true rfl⟩ (Nat.le_of_ble_eq_true rfl) dX0_darkStepCosts_53 ?_
      refine J.imul (pc := 56) C dX0_darkStepCosts_56 ?_
      exact hret dX0_darkStepCosts_57 hM rfl
    · have hM := ite_f hs1 hM
      refine J.case (pc := 8) C 3 (fun hs2 => ?_) (fun hs2 => ?_)
      · have hM := ite_t hs2 hM
        refine J.tabIn (pc := 8) C 3 58 dX0_darkStepCosts_8 hs2 (by decide) (by decide) rfl (by decide) ?_
        refine J.aload_n (pc := 58) C dX0_darkStepCosts_58 rfl rfl ?_
        refine J.callV0i (pc := 59) C (K_X0_dark ha _) lk_X0_dark tm_X0_75 (io_al q cI ha) ⟨Nat.le_of_ble_eq_true rfl, Nat.le_of_ble_eq_true rfl⟩ (Nat.le_of_ble_eq_true rfl) dX0_darkStepCosts_59 ?_
        refine J.iconst (pc := 62) C 1 dX0_darkStepCosts_62 ic_1 ?_
        refine J.iadd (pc := 63) C dX0_darkStepCosts_63 ?_
        exact hret dX0_darkStepCosts_64 hM rfl
      · have hM := ite_f hs2 hM
        refine J.case (pc := 8) C 4 (fun hs3 => ?_) (fun hs3 => ?_)
        · have hM := ite_t hs3 hM
          refine J.tabIn (pc := 8) C 4 65 dX0_darkStepCosts_8 hs3 (by decide) (by decide) rfl (by decide) ?_
          refine J.iconst (pc := 65) C 0 dX0_darkStepCosts_65 ic_0 ?_
          exact hret dX0_darkStepCosts_66 hM rfl
        · have hM := ite_f hs3 hM
          refine J.case (pc := 8) C 5 (fun hs4 => ?_) (fun hs4 => ?_)
          · have hM := ite_t hs4 hM
            refine J.tabIn (pc := 8) C 5 65 dX0_darkStepCosts_8 hs4 (by decide) (by decide) rfl (by decide) ?_
            refine J.iconst (pc := 65) C 0 dX0_darkStepCosts_65 ic_0 ?_
            exact hret dX0_darkStepCosts_66 hM rfl
          · have hM := ite_f hs4 hM
            refine J.tabOut (pc := 8) C 67 dX0_darkStepCosts_8 (by have c0 := i_ne 1 rfl hs0; have c1 := i_ne 2 rfl hs1; have c2 := i_ne 3 rfl hs2; have c3 := i_ne 4 rfl hs3; have c4 := i_ne 5 rfl hs4; omega) (by decide) ?_
            refine J.aload_n (pc := 67) C dX0_darkStepCosts_67 rfl rfl ?_
            refine J.callV0i (pc := 68) C (K_X0_dark ha _) lk_X0_dark tm_X0_75 (io_al q cI ha) ⟨Nat.le_of_ble_eq_true rfl, Nat.le_of_ble_eq_true rfl⟩ (Nat.le_of_ble_eq_true rfl) dX0_darkStepCosts_68 ?_
            exact hret dX0_darkStepCosts_71 hM rfl
def V_X0_darkStepCosts (a : Nat) (x1 : Int32) (g : Sg) : Int32 := (if (rat g (a + 2) 7 x1) = 1 then (V_X0_dark a g) / 2 else if (rat g (a + 2) 7 x1) = 2 then 2 * (V_X0_dark a g) else if (rat g (a + 2) 7 x1) = 3 then (V_X0_dark a g) + 1 else if (rat g (a + 2) 7 x1) = 4 then 0 else if (rat g (a + 2) 7 x1) = 5 then 0 else V_X0_dark a g)
theorem E_X0_darkStepCosts (a : Nat) (x1 : Int32) (g : Sg) : M_X0_darkStepCosts a x1 g = some (V_X0_darkStepCosts a x1 g, g) := by
  unfold M_X0_darkStepCosts V_X0_darkStepCosts
  first | rfl | ((try dsimp only [lt]); (repeat' split) <;> rfl)
theorem K_X0_darkStepCosts {l : Launch} {D : va_G} {q : Nat → Nat} {cI : ClassId} {z : Nat} {a : Nat} (ha : isAl a) (x1 : Int32) (g : Sg) : CTi l (EC z) D cI (cW q cI) yX0_darkStepCosts cX0_darkStepCosts 2 (some .int) 2 41 [.ref (q a), .int x1] g (V_X0_darkStepCosts a x1 g, g) := C_X0_darkStepCosts ha (E_X0_darkStepCosts a x1 g)
def M_X0_carriesTo (a : Nat) (x1 x2 : Int32) (g : Sg) : Option (Int32 × Sg) := lt (rat g (a + 5) 7 x1) (fun x3_1 => lt (rat g (a + 3) 7 x1) (fun x4_2 => (if (rat g (a + 2) 7 x1) = 1 then (if x3_1 < x2 then some (imin x2 (x3_1 + x4_2), g) else some (imax x2 (x3_1 - x4_2), g)) else if (rat g (a + 2) 7 x1) = 5 then some (x2, g) else some (x3_1, g))))
set_option maxRecDepth 100000 in
set_option maxHeartbeats 4000000 in
theorem C_X0_carriesTo {l : Launch} {D : va_G} {q : Nat → Nat} {cI : ClassId} {z : Nat} {a : Nat} (ha : isAl a) {x1 x2 : Int32} {g : Sg} {r : Int32 × Sg} (h : M_X0_carriesTo a x1 x2 g = some r) : CTi l (EC z) D cI (cW q cI) yX0_carriesTo cX0_carriesTo 5 (some .int) 1 24 [.ref (q a), .int x1, .int x2] g r := by
  refine CTi.of2 (by decide) (EC_ok z) (Nat.le_of_ble_eq_true rfl) rfl (fun p e s m args below meth c A Q C hret => ?_)
  have hM := h
  unfold M_X0_carriesTo at hM
  refine J.aload_n (pc := 0) C dX0_carriesTo_0 rfl rfl ?_
  refine gf_X0_4 (pc := 1) ha C tf_X0_24 dX0_carriesTo_1 ?_
  refine J.iload_n (pc := 4) C dX0_carriesTo_4 rfl rfl ?_
  refine J.callS2i (pc := 5) C (K_X4_at (ia_al5 q cI ha) _ _) lk_X4_at tm_X0_47 ⟨Nat.le_of_ble_eq_true rfl, Nat.le_of_ble_eq_true rfl⟩ (Nat.le_of_ble_eq_true rfl) dX0_carriesTo_5 ?_
  obtain ⟨_, ea, hM⟩ := lt_ex hM
  refine J.istore_nV (pc := 8) C dX0_carriesTo_8 rfl (by decide) ea ?_
  refine J.aload_n (pc := 9) C dX0_carriesTo_9 rfl rfl ?_
  refine gf_X0_2 (pc := 10) ha C tf_X0_18 dX0_carriesTo_10 ?_
  refine J.iload_n (pc := 13) C dX0_carriesTo_13 rfl rfl ?_
  refine J.callS2i (pc := 14) C (K_X4_at (ia_al3 q cI ha) _ _) lk_X4_at tm_X0_47 ⟨Nat.le_of_ble_eq_true rfl, Nat.le_of_ble_eq_true rfl⟩ (Nat.le_of_ble_eq_true rfl) dX0_carriesTo_14 ?_
  obtain ⟨_, ea, hM⟩ := lt_ex hM
  refine J.istoreV (pc := 17) C dX0_carriesTo_17 (by decide) ea ?_
  refine J.aload_n (pc := 19) C dX0_carriesTo_19 rfl rfl ?_
  refine gf_X0_1 (pc := 20) ha C tf_X0_15 dX0_carriesTo_20 ?_
  refine J.iload_n (pc := 23) C dX0_carriesTo_23 rfl rfl ?_
  refine J.callS2i (pc := 24) C (K_X4_at (ia_al2 q cI ha) _ _) lk_X4_at tm_X0_47 ⟨Nat.le_of_ble_eq_true rfl, Nat.le_of_ble_eq_true rfl⟩ (Nat.le_of_ble_eq_true rfl) dX0_carriesTo_24 ?_
  refine J.case (pc := 27) C 1 (fun hs0 => ?_) (fun hs0 => ?_)
  · have hM := ite_t hs0 hM
    refine J.look (pc := 27) (off := 25) C 52 dX0_carriesTo_27 rfl (by rw [hs0]; first | done | rfl) (by decide) ?_
    refine J.iload_n (pc := 52) C dX0_carriesTo_52 rfl rfl ?_
    refine J.iload_n (pc := 53) C dX0_carriesTo_53 rfl rfl ?_
    refine J.icmp_gt (pc := 54) C 68 dX0_carriesTo_54 (by decide) (fun hc => ?_) (fun hc => ?_)
    · have hM := ite_t hc hM
      refine J.iload_n (pc := 68) C dX0_carriesTo_68 rfl rfl ?_
      refine J.iload_n (pc := 69) C dX0_carriesTo_69 rfl rfl ?_
      refine J.iload (pc := 70) C dX0_carriesTo_70 rfl ?_
      refine J.iadd (pc := 72) C dX0_carriesTo_72 ?_
      refine J.mmin (pc := 73) C tm_X0_83 (Nat.le_of_ble_eq_true rfl) (Nat.le_of_ble_eq_true rfl) dX0_carriesTo_73 ?_
      exact hret dX0_carriesTo_76 hM rfl
    · have hM := ite_f hc hM
      refine J.iload_n (pc := 57) C dX0_carriesTo_57 rfl rfl ?_
      refine J.iload_n (pc := 58) C dX0_carriesTo_58 rfl rfl ?_
      refine J.iload (pc := 59) C dX0_carriesTo_59 rfl ?_
      refine J.isub (pc := 61) C dX0_carriesTo_61 ?_
      refine J.mmax (pc := 62) C tm_X0_79 (Nat.le_of_ble_eq_true rfl) (Nat.le_of_ble_eq_true rfl) dX0_carriesTo_62 ?_
      refine J.goto (pc := 65) C 76 dX0_carriesTo_65 (by decide) ?_
      exact hret dX0_carriesTo_76 hM rfl
  · have hM := ite_f hs0 hM
    refine J.case (pc := 27) C 5 (fun hs1 => ?_) (fun hs1 => ?_)
    · have hM := ite_t hs1 hM
      refine J.look (pc := 27) (off := 50) C 77 dX0_carriesTo_27 rfl (by rw [hs1]; first | done | rfl) (by decide) ?_
      refine J.iload_n (pc := 77) C dX0_carriesTo_77 rfl rfl ?_
      exact hret dX0_carriesTo_78 hM rfl
    · have hM := ite_f hs1 hM
      refine J.look (pc := 27) (off := 52) C 79 dX0_carriesTo_27 rfl (by have c0 := i_ne 1 rfl hs0; have c1 := i_ne 5 rfl hs1; exact (if_neg (Ne.symm c0)).trans ((if_neg (Ne.symm c1)).trans (rfl))) (by decide) ?_
      refine J.iload_n (pc := 79) C dX0_carriesTo_79 rfl rfl ?_
      exact hret dX0_carriesTo_80 hM rfl
def V_X0_carriesTo (a : Nat) (x1 x2 : Int32) (g : Sg) : Int32 := let x3_1 := (rat g (a + 5) 7 x1); let x4_2 := (rat g (a + 3) 7 x1); (if (rat g (a + 2) 7 x1) = 1 then (if x3_1 < x2 then imin x2 (x3_1 + x4_2) else imax x2 (x3_1 - x4_2)) else if (rat g (a + 2) 7 x1) = 5 then x2 else x3_1)
theorem E_X0_carriesTo (a : Nat) (x1 x2 : Int32) (g : Sg) : M_X0_carriesTo a x1 x2 g = some (V_X0_carriesTo a x1 x2 g, g) := by
  unfold M_X0_carriesTo V_X0_carriesTo
  first | rfl | ((try dsimp only [lt]); (repeat' split) <;> rfl)
theorem K_X0_carriesTo {l : Launch} {D : va_G} {q : Nat → Nat} {cI : ClassId} {z : Nat} {a : Nat} (ha : isAl a) (x1 x2 : Int32) (g : Sg) : CTi l (EC z) D cI (cW q cI) yX0_carriesTo cX0_carriesTo 5 (some .int) 1 24 [.ref (q a), .int x1, .int x2] g (V_X0_carriesTo a x1 x2 g, g) := C_X0_carriesTo ha (E_X0_carriesTo a x1 x2 g)
def M_X0_bringsTo (a : Nat) (x1 x2 : Int32) (g : Sg) : Option (Int32 × Sg) := (if (rat g (a + 2) 7 x1) = 3 then some (V_X0_pump a g, g) else if (rat g (a + 2) 7 x1) = 4 then some (rat g (a + 4) 7 x1, g) else some (x2, g))
set_option maxRecDepth 100000 in
set_option maxHeartbeats 4000000 in
theorem C_X0_bringsTo {l : Launch} {D : va_G} {q : Nat → Nat} {cI : ClassId} {z : Nat} {a : Nat} (ha : isAl a) {x1 x2 : Int32} {g : Sg} {r : Int32 × Sg} (h : M_X0_bringsTo a x1 x2 g = some r) : CTi l (EC z) D cI (cW q cI) yX0_bringsTo cX0_bringsTo 3 (some .int) 2 41 [.ref (q a), .int x1, .int x2] g r := by
  refine CTi.of2 (by decide) (EC_ok z) (Nat.le_of_ble_eq_true rfl) rfl (fun p e s m args below meth c A Q C hret => ?_)
  have hM := h
  unfold M_X0_bringsTo at hM
  refine J.aload_n (pc := 0) C dX0_bringsTo_0 rfl rfl ?_
  refine gf_X0_1 (pc := 1) ha C tf_X0_15 dX0_bringsTo_1 ?_
  refine J.iload_n (pc := 4) C dX0_bringsTo_4 rfl rfl ?_
  refine J.callS2i (pc := 5) C (K_X4_at (ia_al2 q cI ha) _ _) lk_X4_at tm_X0_47 ⟨Nat.le_of_ble_eq_true rfl, Nat.le_of_ble_eq_true rfl⟩ (Nat.le_of_ble_eq_true rfl) dX0_bringsTo_5 ?_
  refine J.case (pc := 8) C 3 (fun hs0 => ?_) (fun hs0 => ?_)
  · have hM := ite_t hs0 hM
    refine J.look (pc := 8) (off := 28) C 36 dX0_bringsTo_8 rfl (by rw [hs0]; first | done | rfl) (by decide) ?_
    refine J.aload_n (pc := 36) C dX0_bringsTo_36 rfl rfl ?_
    refine J.callV0i (pc := 37) C (K_X0_pump ha _) lk_X0_pump tm_X0_86 (io_al q cI ha) ⟨Nat.le_of_ble_eq_true rfl, Nat.le_of_ble_eq_true rfl⟩ (Nat.le_of_ble_eq_true rfl) dX0_bringsTo_37 ?_
    exact hret dX0_bringsTo_40 hM rfl
  · have hM := ite_f hs0 hM
    refine J.case (pc := 8) C 4 (fun hs1 => ?_) (fun hs1 => ?_)
    · have hM := ite_t hs1 hM
      refine J.look (pc := 8) (off := 33) C 41 dX0_bringsTo_8 rfl (by rw [hs1]; first | done | rfl) (by decide) ?_
      refine J.aload_n (pc := 41) C dX0_bringsTo_41 rfl rfl ?_
      refine gf_X0_3 (pc := 42) ha C tf_X0_21 dX0_bringsTo_42 ?_
      refine J.iload_n (pc := 45) C dX0_bringsTo_45 rfl rfl ?_
      refine J.callS2i (pc := 46) C (K_X4_at (ia_al4 q cI ha) _ _) lk_X4_at tm_X0_47 ⟨Nat.le_of_ble_eq_true rfl, Nat.le_of_ble_eq_true rfl⟩ (Nat.le_of_ble_eq_true rfl) dX0_bringsTo_46 ?_
      exact hret dX0_bringsTo_49 hM rfl
    · have hM := ite_f hs1 hM
      refine J.look (pc := 8) (off := 42) C 50 dX0_bringsTo_8 rfl (by have c0 := i_ne 3 rfl hs0; have c1 := i_ne 4 rfl hs1; exact (if_neg (Ne.symm c0)).trans ((if_neg (Ne.symm c1)).trans (rfl))) (by decide) ?_
      refine J.iload_n (pc := 50) C dX0_bringsTo_50 rfl rfl ?_
      exact hret dX0_bringsTo_51 hM rfl
def V_X0_bringsTo (a : Nat) (x1 x2 : Int32) (g : Sg) : Int32 := (if (rat g (a + 2) 7 x1) = 3 then V_X0_pump a g else if (rat g (a + 2) 7 x1) = 4 then rat g (a + 4) 7 x1 else x2)
theorem E_X0_bringsTo (a : Nat) (x1 x2 : Int32) (g : Sg) : M_X0_bringsTo a x1 x2 g = some (V_X0_bringsTo a x1 x2 g, g) := by
  unfold M_X0_bringsTo V_X0_bringsTo
  first | rfl | ((try dsimp only [lt]); (repeat' split) <;> rfl)
theorem K_X0_bringsTo {l : Launch} {D : va_G} {q : Nat → Nat} {cI : ClassId} {z : Nat} {a : Nat} (ha : isAl a) (x1 x2 : Int32) (g : Sg) : CTi l (EC z) D cI (cW q cI) yX0_bringsTo cX0_bringsTo 3 (some .int) 2 41 [.ref (q a), .int x1, .int x2] g (V_X0_bringsTo a x1 x2 g, g) := C_X0_bringsTo ha (E_X0_bringsTo a x1 x2 g)
end
section
theorem i_vc : Claimed_1_1 ∧ Claimed_1_2 := sorry
end
