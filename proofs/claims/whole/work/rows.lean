section
/-- a private method of a class that the tables say can be made, by its rows of tables_1 -/
def lw_okq (q : MethodName × Nat) : Prop := (q.1.cls ≠ "java/lang/invoke/MethodHandle" ∧ q.1.cls ≠ "java/lang/invoke/VarHandle") ∧ Cond.instantiable q.1.cls q.2 ∈ tables_1 ∧ Cond.privateMethod q.1 ∈ tables_1 ∧ Cond.instanceMethod q.1 ∈ tables_1
theorem lw_p0 : lw_okq (⟨"SpokenMenus$Ways", "leastAt", "(LSpokenMenus$Place;LSpokenMenus$Caller;)I"⟩, 1) := ⟨⟨by decide +kernel, by decide +kernel⟩, List.mem_of_getElem? (i := 45) (by decide +kernel), List.mem_of_getElem? (i := 458) (by decide +kernel), List.mem_of_getElem? (i := 459) (by decide +kernel)⟩
theorem lw_p1 : lw_okq (⟨"SpokenMenus$Ways", "leastAtMenu", "(LSpokenMenus$Place;)I"⟩, 1) := ⟨⟨by decide +kernel, by decide +kernel⟩, List.mem_of_getElem? (i := 45) (by decide +kernel), List.mem_of_getElem? (i := 462) (by decide +kernel), List.mem_of_getElem? (i := 463) (by decide +kernel)⟩
theorem lw_p2 : lw_okq (⟨"SpokenMenus$Walk", "begin", "()V"⟩, 10) := ⟨⟨by decide +kernel, by decide +kernel⟩, List.mem_of_getElem? (i := 156) (by decide +kernel), List.mem_of_getElem? (i := 507) (by decide +kernel), List.mem_of_getElem? (i := 508) (by decide +kernel)⟩
theorem lw_p3 : lw_okq (⟨"SpokenMenus$Walk", "come", "(II)V"⟩, 10) := ⟨⟨by decide +kernel, by decide +kernel⟩, List.mem_of_getElem? (i := 156) (by decide +kernel), List.mem_of_getElem? (i := 515) (by decide +kernel), List.mem_of_getElem? (i := 516) (by decide +kernel)⟩
theorem lw_p4 : lw_okq (⟨"SpokenMenus$Walk", "pass", "(LSpokenMenus$Place;LSpokenMenus$Ways;LSpokenMenus$Caller;)I"⟩, 10) := ⟨⟨by decide +kernel, by decide +kernel⟩, List.mem_of_getElem? (i := 156) (by decide +kernel), List.mem_of_getElem? (i := 519) (by decide +kernel), List.mem_of_getElem? (i := 520) (by decide +kernel)⟩
theorem lw_p5 : lw_okq (⟨"SpokenMenus$Walk", "passMenu", "(LSpokenMenus$Place;LSpokenMenus$Ways;LSpokenMenus$Caller;)I"⟩, 10) := ⟨⟨by decide +kernel, by decide +kernel⟩, List.mem_of_getElem? (i := 156) (by decide +kernel), List.mem_of_getElem? (i := 523) (by decide +kernel), List.mem_of_getElem? (i := 524) (by decide +kernel)⟩
theorem lw_p6 : lw_okq (⟨"SpokenMenus$Walk", "spend", "(ILSpokenMenus$Caller;)V"⟩, 10) := ⟨⟨by decide +kernel, by decide +kernel⟩, List.mem_of_getElem? (i := 156) (by decide +kernel), List.mem_of_getElem? (i := 540) (by decide +kernel), List.mem_of_getElem? (i := 541) (by decide +kernel)⟩
theorem lw_p7 : lw_okq (⟨"SpokenMenus$Walk", "press", "(ILSpokenMenus$Caller;)V"⟩, 10) := ⟨⟨by decide +kernel, by decide +kernel⟩, List.mem_of_getElem? (i := 156) (by decide +kernel), List.mem_of_getElem? (i := 545) (by decide +kernel), List.mem_of_getElem? (i := 546) (by decide +kernel)⟩
theorem lw_p8 : lw_okq (⟨"SpokenMenus$Walk", "finish", "(I)V"⟩, 10) := ⟨⟨by decide +kernel, by decide +kernel⟩, List.mem_of_getElem? (i := 156) (by decide +kernel), List.mem_of_getElem? (i := 550) (by decide +kernel), List.mem_of_getElem? (i := 551) (by decide +kernel)⟩
theorem lw_p9 : lw_okq (⟨"SpokenMenus$Traps", "spread", "(LSpokenMenus$Place;II)Z"⟩, 2) := ⟨⟨by decide +kernel, by decide +kernel⟩, List.mem_of_getElem? (i := 56) (by decide +kernel), List.mem_of_getElem? (i := 588) (by decide +kernel), List.mem_of_getElem? (i := 589) (by decide +kernel)⟩
theorem lw_p10 : lw_okq (⟨"SpokenMenus$Traps", "isTrap", "(I)Z"⟩, 2) := ⟨⟨by decide +kernel, by decide +kernel⟩, List.mem_of_getElem? (i := 56) (by decide +kernel), List.mem_of_getElem? (i := 605) (by decide +kernel), List.mem_of_getElem? (i := 606) (by decide +kernel)⟩
theorem lw_p11 : lw_okq (⟨"SpokenMenus", "countListeners", "(ILSpokenMenus$Place;)V"⟩, 8) := ⟨⟨by decide +kernel, by decide +kernel⟩, List.mem_of_getElem? (i := 17) (by decide +kernel), List.mem_of_getElem? (i := 637) (by decide +kernel), List.mem_of_getElem? (i := 638) (by decide +kernel)⟩
theorem lw_p12 : lw_okq (⟨"SpokenMenus$Ordering", "goesAhead", "(LSpokenMenus$Place;II)Z"⟩, 3) := ⟨⟨by decide +kernel, by decide +kernel⟩, List.mem_of_getElem? (i := 91) (by decide +kernel), List.mem_of_getElem? (i := 664) (by decide +kernel), List.mem_of_getElem? (i := 665) (by decide +kernel)⟩
theorem lw_p13 : lw_okq (⟨"SpokenMenus$Planner", "planMenu", "(I)V"⟩, 10) := ⟨⟨by decide +kernel, by decide +kernel⟩, List.mem_of_getElem? (i := 110) (by decide +kernel), List.mem_of_getElem? (i := 696) (by decide +kernel), List.mem_of_getElem? (i := 697) (by decide +kernel)⟩
theorem lw_p14 : lw_okq (⟨"SpokenMenus$Planner", "costOfLine", "(II)I"⟩, 10) := ⟨⟨by decide +kernel, by decide +kernel⟩, List.mem_of_getElem? (i := 110) (by decide +kernel), List.mem_of_getElem? (i := 703) (by decide +kernel), List.mem_of_getElem? (i := 704) (by decide +kernel)⟩
theorem lw_p15 : lw_okq (⟨"SpokenMenus$Planner", "planRest", "(II)V"⟩, 10) := ⟨⟨by decide +kernel, by decide +kernel⟩, List.mem_of_getElem? (i := 110) (by decide +kernel), List.mem_of_getElem? (i := 707) (by decide +kernel), List.mem_of_getElem? (i := 708) (by decide +kernel)⟩
def lw_privs_1 : List (MethodName × Nat) := [(⟨"SpokenMenus$Ways", "leastAt", "(LSpokenMenus$Place;LSpokenMenus$Caller;)I"⟩, 1), (⟨"SpokenMenus$Ways", "leastAtMenu", "(LSpokenMenus$Place;)I"⟩, 1), (⟨"SpokenMenus$Walk", "begin", "()V"⟩, 10), (⟨"SpokenMenus$Walk", "come", "(II)V"⟩, 10), (⟨"SpokenMenus$Walk", "pass", "(LSpokenMenus$Place;LSpokenMenus$Ways;LSpokenMenus$Caller;)I"⟩, 10), (⟨"SpokenMenus$Walk", "passMenu", "(LSpokenMenus$Place;LSpokenMenus$Ways;LSpokenMenus$Caller;)I"⟩, 10), (⟨"SpokenMenus$Walk", "spend", "(ILSpokenMenus$Caller;)V"⟩, 10), (⟨"SpokenMenus$Walk", "press", "(ILSpokenMenus$Caller;)V"⟩, 10), (⟨"SpokenMenus$Walk", "finish", "(I)V"⟩, 10), (⟨"SpokenMenus$Traps", "spread", "(LSpokenMenus$Place;II)Z"⟩, 2), (⟨"SpokenMenus$Traps", "isTrap", "(I)Z"⟩, 2), (⟨"SpokenMenus", "countListeners", "(ILSpokenMenus$Place;)V"⟩, 8), (⟨"SpokenMenus$Ordering", "goesAhead", "(LSpokenMenus$Place;II)Z"⟩, 3), (⟨"SpokenMenus$Planner", "planMenu", "(I)V"⟩, 10), (⟨"SpokenMenus$Planner", "costOfLine", "(II)I"⟩, 10), (⟨"SpokenMenus$Planner", "planRest", "(II)V"⟩, 10)]
theorem lw_r1 : ∀ q ∈ lw_privs_1, lw_okq q := List.forall_mem_cons.mpr ⟨lw_p0, List.forall_mem_cons.mpr ⟨lw_p1, List.forall_mem_cons.mpr ⟨lw_p2, List.forall_mem_cons.mpr ⟨lw_p3, List.forall_mem_cons.mpr ⟨lw_p4, List.forall_mem_cons.mpr ⟨lw_p5, List.forall_mem_cons.mpr ⟨lw_p6, List.forall_mem_cons.mpr ⟨lw_p7, List.forall_mem_cons.mpr ⟨lw_p8, List.forall_mem_cons.mpr ⟨lw_p9, List.forall_mem_cons.mpr ⟨lw_p10, List.forall_mem_cons.mpr ⟨lw_p11, List.forall_mem_cons.mpr ⟨lw_p12, List.forall_mem_cons.mpr ⟨lw_p13, List.forall_mem_cons.mpr ⟨lw_p14, List.forall_mem_cons.mpr ⟨lw_p15, fun _ h => absurd h List.not_mem_nil⟩⟩⟩⟩⟩⟩⟩⟩⟩⟩⟩⟩⟩⟩⟩⟩
theorem lw_p16 : lw_okq (⟨"SpokenMenusModel", "newPlace", "(IIII)I"⟩, 57) := ⟨⟨by decide +kernel, by decide +kernel⟩, List.mem_of_getElem? (i := 727) (by decide +kernel), List.mem_of_getElem? (i := 915) (by decide +kernel), List.mem_of_getElem? (i := 916) (by decide +kernel)⟩
theorem lw_p17 : lw_okq (⟨"SpokenMenusModel", "isMenu", "(I)Z"⟩, 57) := ⟨⟨by decide +kernel, by decide +kernel⟩, List.mem_of_getElem? (i := 727) (by decide +kernel), List.mem_of_getElem? (i := 923) (by decide +kernel), List.mem_of_getElem? (i := 924) (by decide +kernel)⟩
theorem lw_p18 : lw_okq (⟨"SpokenMenusModel", "isPlace", "(I)Z"⟩, 57) := ⟨⟨by decide +kernel, by decide +kernel⟩, List.mem_of_getElem? (i := 727) (by decide +kernel), List.mem_of_getElem? (i := 927) (by decide +kernel), List.mem_of_getElem? (i := 928) (by decide +kernel)⟩
theorem lw_p19 : lw_okq (⟨"SpokenMenusModel", "isLine", "(II)Z"⟩, 57) := ⟨⟨by decide +kernel, by decide +kernel⟩, List.mem_of_getElem? (i := 727) (by decide +kernel), List.mem_of_getElem? (i := 955) (by decide +kernel), List.mem_of_getElem? (i := 956) (by decide +kernel)⟩
theorem lw_p20 : lw_okq (⟨"SpokenMenusModel", "swapAt", "(II)V"⟩, 57) := ⟨⟨by decide +kernel, by decide +kernel⟩, List.mem_of_getElem? (i := 727) (by decide +kernel), List.mem_of_getElem? (i := 963) (by decide +kernel), List.mem_of_getElem? (i := 964) (by decide +kernel)⟩
theorem lw_p21 : lw_okq (⟨"SpokenMenusModel", "goThrough", "(IIIIZ)I"⟩, 57) := ⟨⟨by decide +kernel, by decide +kernel⟩, List.mem_of_getElem? (i := 727) (by decide +kernel), List.mem_of_getElem? (i := 986) (by decide +kernel), List.mem_of_getElem? (i := 987) (by decide +kernel)⟩
theorem lw_p22 : lw_okq (⟨"SpokenMenusModel", "layLeast", "()V"⟩, 57) := ⟨⟨by decide +kernel, by decide +kernel⟩, List.mem_of_getElem? (i := 727) (by decide +kernel), List.mem_of_getElem? (i := 990) (by decide +kernel), List.mem_of_getElem? (i := 991) (by decide +kernel)⟩
theorem lw_p23 : lw_okq (⟨"SpokenMenusModel", "leastAt", "(I)I"⟩, 57) := ⟨⟨by decide +kernel, by decide +kernel⟩, List.mem_of_getElem? (i := 727) (by decide +kernel), List.mem_of_getElem? (i := 995) (by decide +kernel), List.mem_of_getElem? (i := 996) (by decide +kernel)⟩
theorem lw_p24 : lw_okq (⟨"SpokenMenusModel", "isServed", "(I)Z"⟩, 57) := ⟨⟨by decide +kernel, by decide +kernel⟩, List.mem_of_getElem? (i := 727) (by decide +kernel), List.mem_of_getElem? (i := 999) (by decide +kernel), List.mem_of_getElem? (i := 1000) (by decide +kernel)⟩
theorem lw_p25 : lw_okq (⟨"SpokenMenusModel", "through", "(II)I"⟩, 57) := ⟨⟨by decide +kernel, by decide +kernel⟩, List.mem_of_getElem? (i := 727) (by decide +kernel), List.mem_of_getElem? (i := 1003) (by decide +kernel), List.mem_of_getElem? (i := 1004) (by decide +kernel)⟩
theorem lw_p26 : lw_okq (⟨"SpokenMenusModel", "leastOf", "(I)I"⟩, 57) := ⟨⟨by decide +kernel, by decide +kernel⟩, List.mem_of_getElem? (i := 727) (by decide +kernel), List.mem_of_getElem? (i := 1007) (by decide +kernel), List.mem_of_getElem? (i := 1008) (by decide +kernel)⟩
theorem lw_p27 : lw_okq (⟨"SpokenMenusModel", "isOpen", "(I)Z"⟩, 57) := ⟨⟨by decide +kernel, by decide +kernel⟩, List.mem_of_getElem? (i := 727) (by decide +kernel), List.mem_of_getElem? (i := 1011) (by decide +kernel), List.mem_of_getElem? (i := 1012) (by decide +kernel)⟩
theorem lw_p28 : lw_okq (⟨"SpokenMenusModel", "isRight", "(I)Z"⟩, 57) := ⟨⟨by decide +kernel, by decide +kernel⟩, List.mem_of_getElem? (i := 727) (by decide +kernel), List.mem_of_getElem? (i := 1015) (by decide +kernel), List.mem_of_getElem? (i := 1016) (by decide +kernel)⟩
theorem lw_p29 : lw_okq (⟨"SpokenMenusModel", "heard", "(I)I"⟩, 57) := ⟨⟨by decide +kernel, by decide +kernel⟩, List.mem_of_getElem? (i := 727) (by decide +kernel), List.mem_of_getElem? (i := 1019) (by decide +kernel), List.mem_of_getElem? (i := 1020) (by decide +kernel)⟩
theorem lw_p30 : lw_okq (⟨"SpokenMenusModel", "comes", "(I)V"⟩, 57) := ⟨⟨by decide +kernel, by decide +kernel⟩, List.mem_of_getElem? (i := 727) (by decide +kernel), List.mem_of_getElem? (i := 1023) (by decide +kernel), List.mem_of_getElem? (i := 1024) (by decide +kernel)⟩
theorem lw_p31 : lw_okq (⟨"SpokenMenusModel", "step", "(Z)I"⟩, 57) := ⟨⟨by decide +kernel, by decide +kernel⟩, List.mem_of_getElem? (i := 727) (by decide +kernel), List.mem_of_getElem? (i := 1027) (by decide +kernel), List.mem_of_getElem? (i := 1028) (by decide +kernel)⟩
def lw_privs_2 : List (MethodName × Nat) := [(⟨"SpokenMenusModel", "newPlace", "(IIII)I"⟩, 57), (⟨"SpokenMenusModel", "isMenu", "(I)Z"⟩, 57), (⟨"SpokenMenusModel", "isPlace", "(I)Z"⟩, 57), (⟨"SpokenMenusModel", "isLine", "(II)Z"⟩, 57), (⟨"SpokenMenusModel", "swapAt", "(II)V"⟩, 57), (⟨"SpokenMenusModel", "goThrough", "(IIIIZ)I"⟩, 57), (⟨"SpokenMenusModel", "layLeast", "()V"⟩, 57), (⟨"SpokenMenusModel", "leastAt", "(I)I"⟩, 57), (⟨"SpokenMenusModel", "isServed", "(I)Z"⟩, 57), (⟨"SpokenMenusModel", "through", "(II)I"⟩, 57), (⟨"SpokenMenusModel", "leastOf", "(I)I"⟩, 57), (⟨"SpokenMenusModel", "isOpen", "(I)Z"⟩, 57), (⟨"SpokenMenusModel", "isRight", "(I)Z"⟩, 57), (⟨"SpokenMenusModel", "heard", "(I)I"⟩, 57), (⟨"SpokenMenusModel", "comes", "(I)V"⟩, 57), (⟨"SpokenMenusModel", "step", "(Z)I"⟩, 57)]
theorem lw_r2 : ∀ q ∈ lw_privs_2, lw_okq q := List.forall_mem_cons.mpr ⟨lw_p16, List.forall_mem_cons.mpr ⟨lw_p17, List.forall_mem_cons.mpr ⟨lw_p18, List.forall_mem_cons.mpr ⟨lw_p19, List.forall_mem_cons.mpr ⟨lw_p20, List.forall_mem_cons.mpr ⟨lw_p21, List.forall_mem_cons.mpr ⟨lw_p22, List.forall_mem_cons.mpr ⟨lw_p23, List.forall_mem_cons.mpr ⟨lw_p24, List.forall_mem_cons.mpr ⟨lw_p25, List.forall_mem_cons.mpr ⟨lw_p26, List.forall_mem_cons.mpr ⟨lw_p27, List.forall_mem_cons.mpr ⟨lw_p28, List.forall_mem_cons.mpr ⟨lw_p29, List.forall_mem_cons.mpr ⟨lw_p30, List.forall_mem_cons.mpr ⟨lw_p31, fun _ h => absurd h List.not_mem_nil⟩⟩⟩⟩⟩⟩⟩⟩⟩⟩⟩⟩⟩⟩⟩⟩
theorem lw_p32 : lw_okq (⟨"SpokenMenusModel", "goOn", "(IZ)I"⟩, 57) := ⟨⟨by decide +kernel, by decide +kernel⟩, List.mem_of_getElem? (i := 727) (by decide +kernel), List.mem_of_getElem? (i := 1031) (by decide +kernel), List.mem_of_getElem? (i := 1032) (by decide +kernel)⟩
theorem lw_p33 : lw_okq (⟨"SpokenMenusModel", "press", "(I)V"⟩, 57) := ⟨⟨by decide +kernel, by decide +kernel⟩, List.mem_of_getElem? (i := 727) (by decide +kernel), List.mem_of_getElem? (i := 1035) (by decide +kernel), List.mem_of_getElem? (i := 1036) (by decide +kernel)⟩
theorem lw_p34 : lw_okq (⟨"SpokenMenusModel", "layTraps", "()V"⟩, 57) := ⟨⟨by decide +kernel, by decide +kernel⟩, List.mem_of_getElem? (i := 727) (by decide +kernel), List.mem_of_getElem? (i := 1059) (by decide +kernel), List.mem_of_getElem? (i := 1060) (by decide +kernel)⟩
theorem lw_p35 : lw_okq (⟨"SpokenMenusModel", "leads", "(I[Z)Z"⟩, 57) := ⟨⟨by decide +kernel, by decide +kernel⟩, List.mem_of_getElem? (i := 727) (by decide +kernel), List.mem_of_getElem? (i := 1063) (by decide +kernel), List.mem_of_getElem? (i := 1064) (by decide +kernel)⟩
theorem lw_p36 : lw_okq (⟨"SpokenMenusModel", "callOf", "(I)I"⟩, 57) := ⟨⟨by decide +kernel, by decide +kernel⟩, List.mem_of_getElem? (i := 727) (by decide +kernel), List.mem_of_getElem? (i := 1079) (by decide +kernel), List.mem_of_getElem? (i := 1080) (by decide +kernel)⟩
theorem lw_p37 : lw_okq (⟨"SpokenMenusModel", "layOrder", "(I)V"⟩, 57) := ⟨⟨by decide +kernel, by decide +kernel⟩, List.mem_of_getElem? (i := 727) (by decide +kernel), List.mem_of_getElem? (i := 1091) (by decide +kernel), List.mem_of_getElem? (i := 1092) (by decide +kernel)⟩
theorem lw_p38 : lw_okq (⟨"SpokenMenusModel", "leastLine", "(IIZ)I"⟩, 57) := ⟨⟨by decide +kernel, by decide +kernel⟩, List.mem_of_getElem? (i := 727) (by decide +kernel), List.mem_of_getElem? (i := 1107) (by decide +kernel), List.mem_of_getElem? (i := 1108) (by decide +kernel)⟩
theorem lw_p39 : lw_okq (⟨"SpokenMenusModel", "lineCost", "(III)I"⟩, 57) := ⟨⟨by decide +kernel, by decide +kernel⟩, List.mem_of_getElem? (i := 727) (by decide +kernel), List.mem_of_getElem? (i := 1114) (by decide +kernel), List.mem_of_getElem? (i := 1115) (by decide +kernel)⟩
theorem lw_p40 : lw_okq (⟨"SpokenMenusModel", "ticksOf", "(I)I"⟩, 57) := ⟨⟨by decide +kernel, by decide +kernel⟩, List.mem_of_getElem? (i := 727) (by decide +kernel), List.mem_of_getElem? (i := 1118) (by decide +kernel), List.mem_of_getElem? (i := 1119) (by decide +kernel)⟩
def lw_privs_3 : List (MethodName × Nat) := [(⟨"SpokenMenusModel", "goOn", "(IZ)I"⟩, 57), (⟨"SpokenMenusModel", "press", "(I)V"⟩, 57), (⟨"SpokenMenusModel", "layTraps", "()V"⟩, 57), (⟨"SpokenMenusModel", "leads", "(I[Z)Z"⟩, 57), (⟨"SpokenMenusModel", "callOf", "(I)I"⟩, 57), (⟨"SpokenMenusModel", "layOrder", "(I)V"⟩, 57), (⟨"SpokenMenusModel", "leastLine", "(IIZ)I"⟩, 57), (⟨"SpokenMenusModel", "lineCost", "(III)I"⟩, 57), (⟨"SpokenMenusModel", "ticksOf", "(I)I"⟩, 57)]
theorem lw_r3 : ∀ q ∈ lw_privs_3, lw_okq q := List.forall_mem_cons.mpr ⟨lw_p32, List.forall_mem_cons.mpr ⟨lw_p33, List.forall_mem_cons.mpr ⟨lw_p34, List.forall_mem_cons.mpr ⟨lw_p35, List.forall_mem_cons.mpr ⟨lw_p36, List.forall_mem_cons.mpr ⟨lw_p37, List.forall_mem_cons.mpr ⟨lw_p38, List.forall_mem_cons.mpr ⟨lw_p39, List.forall_mem_cons.mpr ⟨lw_p40, fun _ h => absurd h List.not_mem_nil⟩⟩⟩⟩⟩⟩⟩⟩⟩
def lw_privs : List (MethodName × Nat) := lw_privs_1 ++ (lw_privs_2 ++ (lw_privs_3))
def lw_tbl : List Cond := k2_sels lw_privs ++ tables_1
theorem lw_privs_ok : ∀ q ∈ lw_privs, lw_okq q := by
  show ∀ q ∈ lw_privs_1 ++ (lw_privs_2 ++ (lw_privs_3)), lw_okq q
  exact List.forall_mem_append.mpr ⟨lw_r1, List.forall_mem_append.mpr ⟨lw_r2, lw_r3⟩⟩
abbrev RX0 : String := "SpokenMenus$Caller"
def TX0 : u_T := fun k => match k with
  | 0 => ("SpokenMenus$Caller", "wish", "I", true)
  | 1 => ("SpokenMenus$Caller", "number", "I", true)
  | 2 => ("SpokenMenus$Caller", "patience", "I", true)
  | 3 => ("SpokenMenus$Caller", "hour", "I", true)
  | _ => ("SpokenMenus$Caller", "knows", "Z", true)
def tyX0 : Nat → FieldType := fun k => match k with
  | 0 => .int
  | 1 => .int
  | 2 => .int
  | 3 => .int
  | _ => .boolean
theorem nmX0 : ∀ a, a < 5 → ∀ b, b < 5 → a ≠ b → (TX0 a).2.1 ≠ (TX0 b).2.1 := by decide +kernel
theorem tyX0_ok : ∀ k, k < 5 → parseFieldDescriptor (TX0 k).2.2.1 = some (tyX0 k) := by decide +kernel
theorem inX0 : ∀ w ∈ u_ws RX0 TX0 5, w ∈ lw_tbl := by decide +kernel
abbrev RX1 : String := "SpokenMenus$Groups"
def TX1 : u_T := fun k => match k with
  | 0 => ("SpokenMenus$Groups", "callers", "[LSpokenMenus$Caller;", true)
  | 1 => ("SpokenMenus$Groups", "many", "[I", true)
  | _ => ("SpokenMenus$Groups", "size", "I", false)
def tyX1 : Nat → FieldType := fun k => match k with
  | 0 => .array (.object "SpokenMenus$Caller")
  | 1 => .array .int
  | _ => .int
theorem nmX1 : ∀ a, a < 3 → ∀ b, b < 3 → a ≠ b → (TX1 a).2.1 ≠ (TX1 b).2.1 := by decide +kernel
theorem tyX1_ok : ∀ k, k < 3 → parseFieldDescriptor (TX1 k).2.2.1 = some (tyX1 k) := by decide +kernel
theorem inX1 : ∀ w ∈ u_ws RX1 TX1 3, w ∈ lw_tbl := by decide +kernel
abbrev RX2 : String := "SpokenMenus$House"
def TX2 : u_T := fun k => match k with
  | 0 => ("SpokenMenus$House", "places", "[LSpokenMenus$Place;", true)
  | _ => ("SpokenMenus$House", "size", "I", false)
def tyX2 : Nat → FieldType := fun k => match k with
  | 0 => .array (.object "SpokenMenus$Place")
  | _ => .int
theorem nmX2 : ∀ a, a < 2 → ∀ b, b < 2 → a ≠ b → (TX2 a).2.1 ≠ (TX2 b).2.1 := by decide +kernel
theorem tyX2_ok : ∀ k, k < 2 → parseFieldDescriptor (TX2 k).2.2.1 = some (tyX2 k) := by decide +kernel
theorem inX2 : ∀ w ∈ u_ws RX2 TX2 2, w ∈ lw_tbl := by decide +kernel
abbrev RX3 : String := "SpokenMenus$Line"
def TX3 : u_T := fun k => match k with
  | 0 => ("SpokenMenus$Line", "ticks", "I", false)
  | 1 => ("SpokenMenus$Line", "key", "I", true)
  | 2 => ("SpokenMenus$Line", "wishes", "I", false)
  | _ => ("SpokenMenus$Line", "next", "I", false)
def tyX3 : Nat → FieldType := fun k => match k with
  | 0 => .int
  | 1 => .int
  | 2 => .int
  | _ => .int
theorem nmX3 : ∀ a, a < 4 → ∀ b, b < 4 → a ≠ b → (TX3 a).2.1 ≠ (TX3 b).2.1 := by decide +kernel
theorem tyX3_ok : ∀ k, k < 4 → parseFieldDescriptor (TX3 k).2.2.1 = some (tyX3 k) := by decide +kernel
theorem inX3 : ∀ w ∈ u_ws RX3 TX3 4, w ∈ lw_tbl := by decide +kernel
abbrev RX4 : String := "SpokenMenus$Ordering"
def TX4 : u_T := fun k => match k with
  | 0 => ("SpokenMenus$Ordering", "callers", "[I", true)
  | 1 => ("SpokenMenus$Ordering", "sorted", "[I", true)
  | _ => ("SpokenMenus$Ordering", "stood", "[LSpokenMenus$Line;", true)
def tyX4 : Nat → FieldType := fun k => match k with
  | 0 => .array .int
  | 1 => .array .int
  | _ => .array (.object "SpokenMenus$Line")
theorem nmX4 : ∀ a, a < 3 → ∀ b, b < 3 → a ≠ b → (TX4 a).2.1 ≠ (TX4 b).2.1 := by decide +kernel
theorem tyX4_ok : ∀ k, k < 3 → parseFieldDescriptor (TX4 k).2.2.1 = some (tyX4 k) := by decide +kernel
theorem inX4 : ∀ w ∈ u_ws RX4 TX4 3, w ∈ lw_tbl := by decide +kernel
abbrev RX5 : String := "SpokenMenus$Place"
def TX5 : u_T := fun k => match k with
  | 0 => ("SpokenMenus$Place", "kind", "I", true)
  | 1 => ("SpokenMenus$Place", "ticks", "I", true)
  | 2 => ("SpokenMenus$Place", "served", "I", true)
  | 3 => ("SpokenMenus$Place", "next", "I", true)
  | 4 => ("SpokenMenus$Place", "other", "I", true)
  | 5 => ("SpokenMenus$Place", "lines", "[LSpokenMenus$Line;", true)
  | 6 => ("SpokenMenus$Place", "size", "I", false)
  | 7 => ("SpokenMenus$Place", "repeats", "I", false)
  | 8 => ("SpokenMenus$Place", "figures", "I", false)
  | 9 => ("SpokenMenus$Place", "from", "I", false)
  | _ => ("SpokenMenus$Place", "to", "I", false)
def tyX5 : Nat → FieldType := fun k => match k with
  | 0 => .int
  | 1 => .int
  | 2 => .int
  | 3 => .int
  | 4 => .int
  | 5 => .array (.object "SpokenMenus$Line")
  | 6 => .int
  | 7 => .int
  | 8 => .int
  | 9 => .int
  | _ => .int
theorem nmX5 : ∀ a, a < 11 → ∀ b, b < 11 → a ≠ b → (TX5 a).2.1 ≠ (TX5 b).2.1 := by decide +kernel
theorem tyX5_ok : ∀ k, k < 11 → parseFieldDescriptor (TX5 k).2.2.1 = some (tyX5 k) := by decide +kernel
theorem inX5 : ∀ w ∈ u_ws RX5 TX5 11, w ∈ lw_tbl := by decide +kernel
abbrev RX6 : String := "SpokenMenus$Planner"
def TX6 : u_T := fun k => match k with
  | 0 => ("SpokenMenus$Planner", "wishTicks", "[I", true)
  | 1 => ("SpokenMenus$Planner", "wishCallers", "[I", true)
  | 2 => ("SpokenMenus$Planner", "all", "I", false)
  | 3 => ("SpokenMenus$Planner", "breadth", "I", false)
  | 4 => ("SpokenMenus$Planner", "groupTicks", "I", false)
  | 5 => ("SpokenMenus$Planner", "callersOf", "[I", true)
  | 6 => ("SpokenMenus$Planner", "menuCost", "[I", true)
  | 7 => ("SpokenMenus$Planner", "menuFirst", "[I", true)
  | 8 => ("SpokenMenus$Planner", "restCost", "[[I", true)
  | _ => ("SpokenMenus$Planner", "restFirst", "[[I", true)
def tyX6 : Nat → FieldType := fun k => match k with
  | 0 => .array .int
  | 1 => .array .int
  | 2 => .int
  | 3 => .int
  | 4 => .int
  | 5 => .array .int
  | 6 => .array .int
  | 7 => .array .int
  | 8 => .array (.array .int)
  | _ => .array (.array .int)
theorem nmX6 : ∀ a, a < 10 → ∀ b, b < 10 → a ≠ b → (TX6 a).2.1 ≠ (TX6 b).2.1 := by decide +kernel
theorem tyX6_ok : ∀ k, k < 10 → parseFieldDescriptor (TX6 k).2.2.1 = some (tyX6 k) := by decide +kernel
theorem inX6 : ∀ w ∈ u_ws RX6 TX6 10, w ∈ lw_tbl := by decide +kernel
abbrev RX7 : String := "SpokenMenus$Traps"
def TX7 : u_T := fun k => match k with
  | 0 => ("SpokenMenus$Traps", "reached", "[Z", true)
  | _ => ("SpokenMenus$Traps", "leadsToDesk", "[Z", true)
def tyX7 : Nat → FieldType := fun k => match k with
  | 0 => .array .boolean
  | _ => .array .boolean
theorem nmX7 : ∀ a, a < 2 → ∀ b, b < 2 → a ≠ b → (TX7 a).2.1 ≠ (TX7 b).2.1 := by decide +kernel
theorem tyX7_ok : ∀ k, k < 2 → parseFieldDescriptor (TX7 k).2.2.1 = some (tyX7 k) := by decide +kernel
theorem inX7 : ∀ w ∈ u_ws RX7 TX7 2, w ∈ lw_tbl := by decide +kernel
abbrev RX8 : String := "SpokenMenus$Walk"
def TX8 : u_T := fun k => match k with
  | 0 => ("SpokenMenus$Walk", "was", "Z", false)
  | 1 => ("SpokenMenus$Walk", "end", "I", false)
  | 2 => ("SpokenMenus$Walk", "ticks", "I", false)
  | 3 => ("SpokenMenus$Walk", "last", "I", false)
  | 4 => ("SpokenMenus$Walk", "comings", "I", false)
  | 5 => ("SpokenMenus$Walk", "presses", "I", false)
  | 6 => ("SpokenMenus$Walk", "cameTo", "[I", true)
  | 7 => ("SpokenMenus$Walk", "keys", "[I", true)
  | 8 => ("SpokenMenus$Walk", "seen", "[Z", true)
  | _ => ("SpokenMenus$Walk", "clocksOnEnd", "I", false)
def tyX8 : Nat → FieldType := fun k => match k with
  | 0 => .boolean
  | 1 => .int
  | 2 => .int
  | 3 => .int
  | 4 => .int
  | 5 => .int
  | 6 => .array .int
  | 7 => .array .int
  | 8 => .array .boolean
  | _ => .int
theorem nmX8 : ∀ a, a < 10 → ∀ b, b < 10 → a ≠ b → (TX8 a).2.1 ≠ (TX8 b).2.1 := by decide +kernel
theorem tyX8_ok : ∀ k, k < 10 → parseFieldDescriptor (TX8 k).2.2.1 = some (tyX8 k) := by decide +kernel
theorem inX8 : ∀ w ∈ u_ws RX8 TX8 10, w ∈ lw_tbl := by decide +kernel
abbrev RX9 : String := "SpokenMenus$Ways"
def TX9 : u_T := fun k => match k with
  | _ => ("SpokenMenus$Ways", "ticks", "[I", true)
def tyX9 : Nat → FieldType := fun k => match k with
  | _ => .array .int
theorem nmX9 : ∀ a, a < 1 → ∀ b, b < 1 → a ≠ b → (TX9 a).2.1 ≠ (TX9 b).2.1 := by decide +kernel
theorem tyX9_ok : ∀ k, k < 1 → parseFieldDescriptor (TX9 k).2.2.1 = some (tyX9 k) := by decide +kernel
theorem inX9 : ∀ w ∈ u_ws RX9 TX9 1, w ∈ lw_tbl := by decide +kernel
abbrev RX10 : String := "SpokenMenus"
def TX10 : u_T := fun k => match k with
  | 0 => ("SpokenMenus", "house", "LSpokenMenus$House;", true)
  | 1 => ("SpokenMenus", "ways", "LSpokenMenus$Ways;", true)
  | 2 => ("SpokenMenus", "traps", "LSpokenMenus$Traps;", true)
  | 3 => ("SpokenMenus", "groups", "LSpokenMenus$Groups;", true)
  | 4 => ("SpokenMenus", "ordering", "LSpokenMenus$Ordering;", true)
  | 5 => ("SpokenMenus", "planner", "LSpokenMenus$Planner;", true)
  | 6 => ("SpokenMenus", "latest", "LSpokenMenus$Walk;", true)
  | _ => ("SpokenMenus", "trial", "LSpokenMenus$Walk;", true)
def tyX10 : Nat → FieldType := fun k => match k with
  | 0 => .object "SpokenMenus$House"
  | 1 => .object "SpokenMenus$Ways"
  | 2 => .object "SpokenMenus$Traps"
  | 3 => .object "SpokenMenus$Groups"
  | 4 => .object "SpokenMenus$Ordering"
  | 5 => .object "SpokenMenus$Planner"
  | 6 => .object "SpokenMenus$Walk"
  | _ => .object "SpokenMenus$Walk"
theorem nmX10 : ∀ a, a < 8 → ∀ b, b < 8 → a ≠ b → (TX10 a).2.1 ≠ (TX10 b).2.1 := by decide +kernel
theorem tyX10_ok : ∀ k, k < 8 → parseFieldDescriptor (TX10 k).2.2.1 = some (tyX10 k) := by decide +kernel
theorem inX10 : ∀ w ∈ u_ws RX10 TX10 8, w ∈ lw_tbl := by decide +kernel
abbrev RX11 : String := "SpokenMenusModel"
def TX11 : u_T := fun k => match k with
  | 0 => ("SpokenMenusModel", "places", "I", false)
  | 1 => ("SpokenMenusModel", "kind", "[I", true)
  | 2 => ("SpokenMenusModel", "ticks", "[I", true)
  | 3 => ("SpokenMenusModel", "times", "[I", true)
  | 4 => ("SpokenMenusModel", "first", "[I", true)
  | 5 => ("SpokenMenusModel", "second", "[I", true)
  | 6 => ("SpokenMenusModel", "serves", "[I", true)
  | 7 => ("SpokenMenusModel", "from", "[I", true)
  | 8 => ("SpokenMenusModel", "to", "[I", true)
  | 9 => ("SpokenMenusModel", "figures", "[I", true)
  | 10 => ("SpokenMenusModel", "lines", "[I", true)
  | 11 => ("SpokenMenusModel", "lineTicks", "[I", true)
  | 12 => ("SpokenMenusModel", "lineKey", "[I", true)
  | 13 => ("SpokenMenusModel", "lineWishes", "[I", true)
  | 14 => ("SpokenMenusModel", "lineNext", "[I", true)
  | 15 => ("SpokenMenusModel", "groups", "I", false)
  | 16 => ("SpokenMenusModel", "groupMany", "[I", true)
  | 17 => ("SpokenMenusModel", "groupWish", "[I", true)
  | 18 => ("SpokenMenusModel", "groupNumber", "[I", true)
  | 19 => ("SpokenMenusModel", "groupPatience", "[I", true)
  | 20 => ("SpokenMenusModel", "groupHour", "[I", true)
  | 21 => ("SpokenMenusModel", "groupKnows", "[I", true)
  | 22 => ("SpokenMenusModel", "wasRung", "Z", false)
  | 23 => ("SpokenMenusModel", "toldTicks", "I", false)
  | 24 => ("SpokenMenusModel", "toldPlace", "I", false)
  | 25 => ("SpokenMenusModel", "toldCame", "I", false)
  | 26 => ("SpokenMenusModel", "toldKeys", "I", false)
  | 27 => ("SpokenMenusModel", "toldPlaces", "[I", true)
  | 28 => ("SpokenMenusModel", "toldPressed", "[I", true)
  | 29 => ("SpokenMenusModel", "wishTicks", "[I", true)
  | 30 => ("SpokenMenusModel", "wishCallers", "[I", true)
  | 31 => ("SpokenMenusModel", "planned", "I", false)
  | 32 => ("SpokenMenusModel", "wishNow", "I", false)
  | 33 => ("SpokenMenusModel", "number", "I", false)
  | 34 => ("SpokenMenusModel", "patience", "I", false)
  | 35 => ("SpokenMenusModel", "hour", "I", false)
  | 36 => ("SpokenMenusModel", "least", "[I", true)
  | 37 => ("SpokenMenusModel", "gone", "I", false)
  | 38 => ("SpokenMenusModel", "at", "I", false)
  | 39 => ("SpokenMenusModel", "came", "I", false)
  | 40 => ("SpokenMenusModel", "keys", "I", false)
  | 41 => ("SpokenMenusModel", "clocks", "I", false)
  | 42 => ("SpokenMenusModel", "met", "[Z", true)
  | 43 => ("SpokenMenusModel", "placesKept", "[I", true)
  | 44 => ("SpokenMenusModel", "keysKept", "[I", true)
  | 45 => ("SpokenMenusModel", "isReached", "[Z", true)
  | 46 => ("SpokenMenusModel", "isWell", "[Z", true)
  | 47 => ("SpokenMenusModel", "one", "[Z", true)
  | 48 => ("SpokenMenusModel", "lineCallers", "[I", true)
  | 49 => ("SpokenMenusModel", "order", "[I", true)
  | 50 => ("SpokenMenusModel", "lay", "[I", true)
  | 51 => ("SpokenMenusModel", "cost", "[I", true)
  | 52 => ("SpokenMenusModel", "menuCost", "[I", true)
  | 53 => ("SpokenMenusModel", "groupTicks", "I", false)
  | 54 => ("SpokenMenusModel", "breadth", "I", false)
  | 55 => ("SpokenMenusModel", "callersOf", "[I", true)
  | _ => ("SpokenMenusModel", "planTicks", "[I", true)
def tyX11 : Nat → FieldType := fun k => match k with
  | 0 => .int
  | 1 => .array .int
  | 2 => .array .int
  | 3 => .array .int
  | 4 => .array .int
  | 5 => .array .int
  | 6 => .array .int
  | 7 => .array .int
  | 8 => .array .int
  | 9 => .array .int
  | 10 => .array .int
  | 11 => .array .int
  | 12 => .array .int
  | 13 => .array .int
  | 14 => .array .int
  | 15 => .int
  | 16 => .array .int
  | 17 => .array .int
  | 18 => .array .int
  | 19 => .array .int
  | 20 => .array .int
  | 21 => .array .int
  | 22 => .boolean
  | 23 => .int
  | 24 => .int
  | 25 => .int
  | 26 => .int
  | 27 => .array .int
  | 28 => .array .int
  | 29 => .array .int
  | 30 => .array .int
  | 31 => .int
  | 32 => .int
  | 33 => .int
  | 34 => .int
  | 35 => .int
  | 36 => .array .int
  | 37 => .int
  | 38 => .int
  | 39 => .int
  | 40 => .int
  | 41 => .int
  | 42 => .array .boolean
  | 43 => .array .int
  | 44 => .array .int
  | 45 => .array .boolean
  | 46 => .array .boolean
  | 47 => .array .boolean
  | 48 => .array .int
  | 49 => .array .int
  | 50 => .array .int
  | 51 => .array .int
  | 52 => .array .int
  | 53 => .int
  | 54 => .int
  | 55 => .array .int
  | _ => .array .int
theorem nmX11 : ∀ a, a < 57 → ∀ b, b < 57 → a ≠ b → (TX11 a).2.1 ≠ (TX11 b).2.1 := by decide +kernel
theorem tyX11_ok : ∀ k, k < 57 → parseFieldDescriptor (TX11 k).2.2.1 = some (tyX11 k) := by decide +kernel
theorem inX11 : ∀ w ∈ u_ws RX11 TX11 57, w ∈ lw_tbl := by decide +kernel
abbrev vwCl : List vw_C := [(RX0, TX0, 5), (RX1, TX1, 3), (RX2, TX2, 2), (RX3, TX3, 4), (RX4, TX4, 3), (RX5, TX5, 11), (RX6, TX6, 10), (RX7, TX7, 2), (RX8, TX8, 10), (RX9, TX9, 1), (RX10, TX10, 8), (RX11, TX11, 57)]
def tbG : List Cond := lw_tbl.filter goodWord
theorem tb_bad : (lw_tbl.filter (fun w => !goodWord w)).length = 53 := by decide +kernel
theorem tb_in {w : Cond} (h : w ∈ lw_tbl) (hg : goodWord w = true) : w ∈ tbG := List.mem_filter.mpr ⟨h, hg⟩
theorem tb_of {w : Cond} (h : w ∈ tbG) : w ∈ lw_tbl := (List.mem_filter.mp h).1
theorem tb_good {w : Cond} (h : w ∈ tbG) : goodWord w = true := (List.mem_filter.mp h).2
end
section
/-! THE HEAP AS PURE FUNCTIONS: the kind of each address (0: no cell; 1 + ci: an object of class ci; 13 int[], 14 boolean[], 15 Caller[], 16 Line[], 17 Place[], 18 int[][]), lengths, ints, references, the size -/
abbrev Hp : Type := (Nat → Nat) × (Nat → Nat) × (Nat → Nat → Int32) × (Nat → Nat → Option Nat) × Nat
def u2 {α : Type} (f : Nat → Nat → α) (a k : Nat) (v : α) : Nat → Nat → α := va_up f a (va_up (f a) k v)
def hp_si (h : Hp) (a k : Nat) (v : Int32) : Hp := (h.1, h.2.1, u2 h.2.2.1 a k v, h.2.2.2.1, h.2.2.2.2)
def hp_sr (h : Hp) (a k : Nat) (v : Option Nat) : Hp := (h.1, h.2.1, h.2.2.1, u2 h.2.2.2.1 a k v, h.2.2.2.2)
def hp_nw (h : Hp) (kd n : Nat) : Hp := (va_up h.1 h.2.2.2.2 kd, va_up h.2.1 h.2.2.2.2 n, va_up h.2.2.1 h.2.2.2.2 (fun _ => 0), va_up h.2.2.2.1 h.2.2.2.2 (fun _ => none), h.2.2.2.2 + 1)
/-- which fields of a class are references -/
def hp_rs : List (List Nat) := [[], [0, 1], [0], [], [0, 1, 2], [5], [0, 1, 5, 6, 7, 8, 9], [0, 1], [6, 7, 8], [0], [0, 1, 2, 3, 4, 5, 6, 7], [1, 2, 3, 4, 5, 6, 7, 8, 9, 10, 11, 12, 13, 14, 16, 17, 18, 19, 20, 21, 27, 28, 29, 30, 36, 42, 43, 44, 45, 46, 47, 48, 49, 50, 51, 52, 55, 56]]
def hp_nf : List Nat := [5, 3, 2, 4, 3, 11, 10, 2, 10, 1, 8, 57]
def hp_isr (ci k : Nat) : Bool := (hp_rs.getD ci []).contains k
def hp_fv (h : Hp) (ci a k : Nat) : Value := if hp_isr ci k = true then va_rf (h.2.2.2.1 a k) else .int (h.2.2.1 a k)
def hp_fs (h : Hp) (ci a : Nat) : List Value := (List.range (hp_nf.getD ci 0)).map (hp_fv h ci a)
def hp_c (cA : Nat → ClassId) (h : Hp) (a : Nat) : va_E :=
  if h.1 a < 13 then .inr (h.1 a - 1, hp_fs h (h.1 a - 1) a)
  else if h.1 a < 15 then .inl (cA (h.1 a), h.2.1 a, .inl (h.2.2.1 a))
  else .inl (cA (h.1 a), h.2.1 a, .inr (.inr (.inr (.inr (h.2.2.2.1 a)))))
abbrev hp_ty (cA : Nat → ClassId) : List (ClassId × FieldType) := [(cA 13, .int), (cA 14, .boolean), (cA 15, .object RX0), (cA 16, .object RX3), (cA 17, .object RX5), (cA 18, .array .int)]
def hp_NW : List Cond := [Cond.methodLinkNest "SpokenMenus" 9 ({ cls := "SpokenMenus$House", name := "<init>", desc := "()V" } : MethodName) "SpokenMenus", Cond.methodLinkNest "SpokenMenus" 18 ({ cls := "SpokenMenus$Ways", name := "<init>", desc := "()V" } : MethodName) "SpokenMenus", Cond.methodLinkNest "SpokenMenus" 25 ({ cls := "SpokenMenus$Traps", name := "<init>", desc := "()V" } : MethodName) "SpokenMenus", Cond.methodLinkNest "SpokenMenus" 32 ({ cls := "SpokenMenus$Groups", name := "<init>", desc := "()V" } : MethodName) "SpokenMenus", Cond.methodLinkNest "SpokenMenus" 39 ({ cls := "SpokenMenus$Ordering", name := "<init>", desc := "()V" } : MethodName) "SpokenMenus", Cond.methodLinkNest "SpokenMenus" 53 ({ cls := "SpokenMenus$Walk", name := "<init>", desc := "()V" } : MethodName) "SpokenMenus", Cond.methodLinkNest "SpokenMenus$Walk" 87 ({ cls := "SpokenMenus", name := "clear", desc := "([Z)V" } : MethodName) "SpokenMenus", Cond.methodLinkNest "SpokenMenus$Traps" 18 ({ cls := "SpokenMenus", name := "clear", desc := "([Z)V" } : MethodName) "SpokenMenus"]
def hp_N (U : State) : Prop := (∀ w ∈ hp_NW, va_Nw w U) ∧ va_AO RX0 U ∧ va_AO RX3 U ∧ va_AO RX5 U
def hp_w (D : va_G) (cA : Nat → ClassId) (h : Hp) (H : Heap) : Prop := H.size = h.2.2.2.2 ∧ ∀ a, h.1 a ≠ 0 → va_at D vwCl (a, hp_c cA h a) H
def hp_U (D : va_G) (cA : Nat → ClassId) (h : Hp) (U : State) : Prop := hp_w D cA h U.heap ∧ va_K D vwCl (hp_ty cA) U ∧ hp_N U
def hp_A (h : Hp) : Nat → Prop := fun q => h.1 q ≠ 0 ∨ h.2.2.2.2 ≤ q
def hp_B (D : va_G) (cA : Nat → ClassId) (A : Nat → Prop) (s : State) (h : Hp) (H : Heap) (locs : List Loc) : Prop :=
  hp_w D cA h H ∧ va_K D vwCl (hp_ty cA) s ∧ hp_N s ∧ (∀ a, h.1 a ≠ 0 → A a) ∧ (∀ q, s.heap.size ≤ q → A q) ∧ va_S A s.heap H locs
theorem hp_N.warm {s U : State} (hW : s.WarmedH U.vm) (h : hp_N s) : hp_N U := by
  obtain ⟨h1, h2, h3, h4⟩ := h
  refine ⟨fun w hw => ?_, va_AO.moved hW.alike h2, va_AO.moved hW.alike h3, va_AO.moved hW.alike h4⟩
  have h0 := h1 w hw
  simp only [hp_NW, List.mem_cons, List.not_mem_nil, or_false] at hw
  rcases hw with rfl | rfl | rfl | rfl | rfl | rfl | rfl | rfl <;> exact va_Nw.warmM hW h0
theorem hp_N.same {s U : State} (hv : s.vm = U.vm) (h : hp_N s) : hp_N U := by
  obtain ⟨h1, h2, h3, h4⟩ := h
  refine ⟨fun w hw => ?_, va_AO.moved (by rw [hv]; exact Vm.Alike.refl _) h2, va_AO.moved (by rw [hv]; exact Vm.Alike.refl _) h3, va_AO.moved (by rw [hv]; exact Vm.Alike.refl _) h4⟩
  have h0 := h1 w hw
  refine va_Nw.same ?_ hv h0
  simp only [hp_NW, List.mem_cons, List.not_mem_nil, or_false] at hw
  rcases hw with rfl | rfl | rfl | rfl | rfl | rfl | rfl | rfl <;> rfl
theorem hp_blind {D : va_G} {cA : Nat → ClassId} {h : Hp} {av : List Value} : FrameBlind (va_Pc av (hp_U D cA h)) := fun a U g mk q => by
  obtain ⟨q0, q1, q2, q3⟩ := q
  exact ⟨q0, q1, va_K.moved (u := U) (U := U.calling g mk a) (Vm.Alike.refl U.vm) q2, hp_N.same (s := U) (U := U.calling g mk a) rfl q3⟩
theorem hp_B.U {D : va_G} {cA : Nat → ClassId} {A : Nat → Prop} {s U : State} {h : Hp} {H : Heap} {locs : List Loc} (hB : hp_B D cA A s h H locs) (hU : U.heap = H) (hW : s.WarmedH U.vm) : hp_U D cA h U :=
  ⟨by rw [hU]; exact hB.1, va_K.moved hW.alike hB.2.1, hp_N.warm hW hB.2.2.1⟩
theorem hp_B.entry {D : va_G} {cA : Nat → ClassId} {s : State} {h : Hp} (hU : hp_U D cA h s) : hp_B D cA (hp_A h) s h s.heap [] :=
  ⟨hU.1, hU.2.1, hU.2.2, fun _ h1 => Or.inl h1, fun q hq => Or.inr (by rw [← hU.1.1]; exact hq), va_S.rf⟩
theorem u2_ne {α : Type} {f : Nat → Nat → α} {a k b : Nat} {v : α} (hb : b ≠ a) : u2 f a k v b = f b := va_up_ne _ _ hb
theorem u2_row {α : Type} {f : Nat → Nat → α} {a k : Nat} {v : α} : u2 f a k v a = va_up (f a) k v := va_up_self _ _ _
/-- two heaps that differ at one address in what the cells hold -/
def hp_like (h h' : Hp) (a : Nat) : Prop := h'.1 = h.1 ∧ h'.2.1 = h.2.1 ∧ h'.2.2.2.2 = h.2.2.2.2 ∧ ∀ b, b ≠ a → h'.2.2.1 b = h.2.2.1 b ∧ h'.2.2.2.1 b = h.2.2.2.1 b
theorem hp_like_si (h : Hp) (a k : Nat) (v : Int32) : hp_like h (hp_si h a k v) a := ⟨rfl, rfl, rfl, fun b hb => ⟨u2_ne hb, rfl⟩⟩
theorem hp_like_sr (h : Hp) (a k : Nat) (v : Option Nat) : hp_like h (hp_sr h a k v) a := ⟨rfl, rfl, rfl, fun b hb => ⟨rfl, u2_ne hb⟩⟩
theorem hp_c_ne {cA : Nat → ClassId} {h h' : Hp} {a b : Nat} (hl : hp_like h h' a) (hb : b ≠ a) : hp_c cA h' b = hp_c cA h b := by
  obtain ⟨e1, e2, e3, e4⟩ := hl
  obtain ⟨e5, e6⟩ := e4 b hb
  have e7 : ∀ ci, hp_fv h' ci b = hp_fv h ci b := fun ci => funext fun j => by simp only [hp_fv, e5, e6]
  simp only [hp_c, hp_fs, e1, e2, e5, e6, e7]
theorem hp_fs_len {h : Hp} {ci a : Nat} : (hp_fs h ci a).length = hp_nf.getD ci 0 := by simp [hp_fs]
theorem hp_fs_get {h : Hp} {ci a k : Nat} (hk : k < hp_nf.getD ci 0) : (hp_fs h ci a)[k]? = some (hp_fv h ci a k) := by
  unfold hp_fs
  rw [List.getElem?_map, List.getElem?_range hk]
  rfl
theorem hp_fs_set {h h' : Hp} {ci a k : Nat} {v : Value} (hk : k < hp_nf.getD ci 0) (h1 : hp_fv h' ci a k = v) (h2 : ∀ j, j ≠ k → hp_fv h' ci a j = hp_fv h ci a j) : (hp_fs h ci a).set k v = hp_fs h' ci a := by
  apply List.ext_getElem?
  intro j
  by_cases hj : j = k
  · subst hj
    rw [List.getElem?_set_self (by rw [hp_fs_len]; exact hk), hp_fs_get hk, h1]
  · rw [List.getElem?_set_ne (Ne.symm hj)]
    by_cases hn : j < hp_nf.getD ci 0
    · rw [hp_fs_get hn, hp_fs_get hn, h2 j hj]
    · rw [List.getElem?_eq_none (by rw [hp_fs_len]; omega), List.getElem?_eq_none (by rw [hp_fs_len]; omega)]
theorem hp_fs_si {h : Hp} {ci a k : Nat} {v : Int32} (hk : k < hp_nf.getD ci 0) (hr : hp_isr ci k = false) : (hp_fs h ci a).set k (.int v) = hp_fs (hp_si h a k v) ci a :=
  hp_fs_set hk (by simp [hp_fv, hr, hp_si, u2, va_up]) (fun j hj => by simp [hp_fv, hp_si, u2, va_up, hj])
theorem hp_fs_sr {h : Hp} {ci a k : Nat} {v : Option Nat} (hk : k < hp_nf.getD ci 0) (hr : hp_isr ci k = true) : (hp_fs h ci a).set k (va_rf v) = hp_fs (hp_sr h a k v) ci a :=
  hp_fs_set hk (by simp [hp_fv, hr, hp_sr, u2, va_up]) (fun j hj => by simp [hp_fv, hp_sr, u2, va_up, hj])
theorem hp_c_obj {cA : Nat → ClassId} {h : Hp} {a ci : Nat} (hk : h.1 a = ci + 1) (hci : ci < 12) : hp_c cA h a = .inr (ci, hp_fs h ci a) := by
  unfold hp_c
  rw [hk, if_pos (by omega)]
  rfl
theorem hp_c_int {cA : Nat → ClassId} {h : Hp} {a : Nat} (hk : h.1 a = 13) : hp_c cA h a = .inl (cA 13, h.2.1 a, .inl (h.2.2.1 a)) := by
  unfold hp_c
  rw [hk]
  rfl
theorem hp_c_bool {cA : Nat → ClassId} {h : Hp} {a : Nat} (hk : h.1 a = 14) : hp_c cA h a = .inl (cA 14, h.2.1 a, .inl (h.2.2.1 a)) := by
  unfold hp_c
  rw [hk]
  rfl
theorem hp_c_ref {cA : Nat → ClassId} {h : Hp} {a : Nat} (hk : 15 ≤ h.1 a) : hp_c cA h a = .inl (cA (h.1 a), h.2.1 a, .inr (.inr (.inr (.inr (h.2.2.2.1 a))))) := by
  unfold hp_c
  rw [if_neg (by omega), if_neg (by omega)]
theorem hp_w.set {D : va_G} {cA : Nat → ClassId} {h h' : Hp} {H H1 : Heap} {a : Nat} (hw : hp_w D cA h H) (hl : hp_like h h' a) (he : va_at D vwCl (a, hp_c cA h' a) H1) (hz : H1.size = H.size) (oq : ∀ q : Nat, q ≠ a → H1[q]? = H[q]?) : hp_w D cA h' H1 := by
  refine ⟨by rw [hz, hw.1, hl.2.2.1], fun b hb => ?_⟩
  by_cases e : b = a
  · subst e; exact he
  · rw [hp_c_ne hl e]
    exact (hw.2 b (by rw [← hl.1]; exact hb)).kept (oq b e)
theorem hp_B.set {D : va_G} {cA : Nat → ClassId} {A : Nat → Prop} {s : State} {h h' : Hp} {H H1 : Heap} {locs : List Loc} {a k : Nat} (hB : hp_B D cA A s h H locs) (ha : h.1 a ≠ 0) (hl : hp_like h h' a) (he : va_at D vwCl (a, hp_c cA h' a) H1) (hz : H1.size = H.size) (oq : ∀ q : Nat, q ≠ a → H1[q]? = H[q]?) : hp_B D cA A s h' H1 (locs ++ [⟨a, k⟩]) :=
  ⟨hB.1.set hl he hz oq, hB.2.1, hB.2.2.1, fun b hb => hB.2.2.2.1 b (by rw [← hl.1]; exact hb), hB.2.2.2.2.1, hB.2.2.2.2.2.put hz oq (hB.2.2.2.1 a ha)⟩
theorem hp_one {D : va_G} {cA : Nat → ClassId} {A : Nat → Prop} {s : State} {h : Hp} {H : Heap} {locs : List Loc} {a : Nat} {x : va_E} (hB : hp_B D cA A s h H locs) (ha : h.1 a ≠ 0) (hx : hp_c cA h a = x) : va_P D vwCl [(a, x)] H := by
  intro k q hk
  have h0 : k < 1 := (List.getElem?_eq_some_iff.mp hk).1
  rw [show k = 0 by omega] at hk
  cases hk
  rw [← hx]
  exact hB.1.2 a ha
theorem hp_new_w {D : va_G} {cA : Nat → ClassId} {h : Hp} {H H1 : Heap} {kd n : Nat} (hw : hp_w D cA h H) (he : va_at D vwCl (h.2.2.2.2, hp_c cA (hp_nw h kd n) h.2.2.2.2) H1) (hz : H1.size = H.size + 1) (oq : ∀ q : Nat, q < H.size → H1[q]? = H[q]?) : hp_w D cA (hp_nw h kd n) H1 := by
  refine ⟨by rw [hz, hw.1]; rfl, fun b hb => ?_⟩
  by_cases e : b = h.2.2.2.2
  · subst e; exact he
  · have e1 : (hp_nw h kd n).1 b = h.1 b := va_up_ne _ _ e
    have e2 : (hp_nw h kd n).2.1 b = h.2.1 b := va_up_ne _ _ e
    have e3 : (hp_nw h kd n).2.2.1 b = h.2.2.1 b := va_up_ne _ _ e
    have e4 : (hp_nw h kd n).2.2.2.1 b = h.2.2.2.1 b := va_up_ne _ _ e
    have e7 : ∀ ci, hp_fv (hp_nw h kd n) ci b = hp_fv h ci b := fun ci => funext fun j => by simp only [hp_fv, e3, e4]
    have e5 : hp_c cA (hp_nw h kd n) b = hp_c cA h b := by simp only [hp_c, hp_fs, e1, e2, e3, e4, e7]
    rw [e5]
    have hb' : h.1 b ≠ 0 := by rw [← e1]; exact hb
    exact (hw.2 b hb').kept (oq b (hw.2 b hb').lt)
theorem hp_new_B {D : va_G} {cA : Nat → ClassId} {A : Nat → Prop} {s : State} {h : Hp} {H H1 : Heap} {locs : List Loc} {kd n : Nat} (hB : hp_B D cA A s h H locs) (he : va_at D vwCl (h.2.2.2.2, hp_c cA (hp_nw h kd n) h.2.2.2.2) H1) (hz : H1.size = H.size + 1) (oq : ∀ q : Nat, q < H.size → H1[q]? = H[q]?) : hp_B D cA A s (hp_nw h kd n) H1 locs := by
  obtain ⟨hw, hK, hN, hA, hF, hS⟩ := hB
  refine ⟨hp_new_w hw he hz oq, hK, hN, fun b hb => ?_, hF, ⟨Nat.le_trans hS.1 (by omega), fun x h1 h2 => (oq x (Nat.lt_of_lt_of_le h1 hS.1)).trans (hS.2.1 x h1 h2), hS.2.2⟩⟩
  by_cases e : b = h.2.2.2.2
  · subst e; exact hF _ (by rw [← hw.1]; exact hS.1)
  · exact hA b (by rw [← show (hp_nw h kd n).1 b = h.1 b from va_up_ne _ _ e]; exact hb)
theorem hp_new_fv {h : Hp} {kd n ci k : Nat} : hp_fv (hp_nw h kd n) ci h.2.2.2.2 k = if hp_isr ci k = true then .null else .int 0 := by
  simp only [hp_fv, hp_nw, va_up_self]
  rfl
theorem u_good {C : String} {T : u_T} {N : Nat} {w : Cond} (h : w ∈ u_ws C T N) : goodWord w = true := by
  obtain ⟨k, -, rfl⟩ := List.mem_map.mp h
  unfold u_lay
  split <;> rfl
theorem u_inG {C : String} {T : u_T} {N : Nat} (h : ∀ w ∈ u_ws C T N, w ∈ lw_tbl) : ∀ w ∈ u_ws C T N, w ∈ tbG := fun w hw => tb_in (h w hw) (u_good hw)
/-! what the pure functions are made of, and how a walk takes them apart -/
def gd {α : Type} (b : Bool) (x : Option α) : Option α := if b = true then x else none
theorem gd_ok {α : Type} {b : Bool} {x : Option α} {r : α} (h : gd b x = some r) : b = true ∧ x = some r := by
  unfold gd at h
  split at h
  · exact ⟨by assumption, h⟩
  · cases h
def nm {α β : Type} (v : α) (k : α → β) : β := k v
theorem nm_ok {α β : Type} {v : α} {k : α → Option β} {r : β} (h : nm v k = some r) : ∃ x, x = v ∧ k x = some r := ⟨v, rfl, h⟩
def bd {α β : Type} (o : Option α) (k : α → Option β) : Option β := match o with
  | none => none
  | some a => k a
theorem bd_ok {α β : Type} {o : Option α} {k : α → Option β} {r : β} (h : bd o k = some r) : ∃ a, o = some a ∧ k a = some r := by
  cases o with
  | none => cases h
  | some a => exact ⟨a, rfl, h⟩
def rn {β : Type} (o : Option Nat) (x : β) (k : Nat → β) : β := match o with
  | none => x
  | some a => k a
def fx {σ ρ : Type} (b : (σ → Option ρ) → σ → Option ρ) : Nat → σ → Option ρ
  | 0 => fun _ => none
  | n + 1 => b (fx b n)
def ix (i : Int32) (n : Nat) : Bool := decide (¬ (i < 0 ∨ n ≤ i.toNatClampNeg))
theorem ix_in {i : Int32} {n : Nat} (h : ix i n = true) : vp_in i n := by
  unfold vp_in
  exact of_decide_eq_true h
def zb (x : Int32) : Bool := decide (x = 0) || decide (x = 1)
theorem zb_nar {x : Int32} (h : zb x = true) : narrow .boolean (.int x) = .int x := by
  unfold zb at h
  rcases (by simpa using h : x = 0 ∨ x = 1) with rfl | rfl <;> rfl
theorem zb_vp {x : Int32} (h : zb x = true) : vp_nar .boolean x = x := by
  unfold zb at h
  rcases (by simpa using h : x = 0 ∨ x = 1) with rfl | rfl <;> rfl
def NF : Nat := 4000000
section HPR
variable {p : Program} {l : Launch} {e : Env} {R : Room} {s : State} {m : MethodId} {args : Array Value} {below : List Frame} {meth : Method} {c : Code} {H : Heap} {locs : List Loc} {cells slots : Nat} {Q : State → Prop}
variable {cc : ByteArray} {pc nL : Nat} {ls : Array Slot} {rest : List Value} {D : va_G} {cA : Nat → ClassId} {A : Nat → Prop} {a : Nat} {h : Hp} {own : String}
theorem hp_getI (cx : CallFix p m c cc nL s args tbG own) (hB : hp_B D cA A s h H locs) {C : String} {T : u_T} {N ci index : Nat} (k : Nat) (hc : vwCl[ci]? = some (C, T, N)) (hin : ∀ w ∈ u_ws C T N, w ∈ lw_tbl) (hci : ci < 12) (hN : hp_nf.getD ci 0 = N) (hk : k < N) (hr : hp_isr ci k = false) (hl : Cond.fieldLink own index (T k).1 (T k).2.1 (T k).2.2.1 ∈ lw_tbl) (hka : h.1 a = ci + 1) (hdg : decode cc pc = .ok (.getfield index, 3))
    (kk : W p l e R s m args below meth c H locs cells slots Q (F0 m (pc + 3) ls (.int (h.2.2.1 a k) :: rest))) : W p l e R s m args below meth c H locs cells slots Q (F0 m pc ls (.ref a :: rest)) := by
  obtain ⟨hx, hb, hml, hown, hts⟩ := cx
  refine va_get (D := D) (ci := ci) (v := .int (h.2.2.1 a k)) hx hb hts (u_inG hin) hown hB.2.1 (hp_one hB (by omega) (hp_c_obj hka hci)) 0 rfl hc k hk (hts _ (tb_in hl rfl)) (fun _ h9 => h9) ?_ hdg kk
  rw [hp_fs_get (by omega)]
  simp [hp_fv, hr]
theorem hp_getR (cx : CallFix p m c cc nL s args tbG own) (hB : hp_B D cA A s h H locs) {C : String} {T : u_T} {N ci index : Nat} (k : Nat) (hc : vwCl[ci]? = some (C, T, N)) (hin : ∀ w ∈ u_ws C T N, w ∈ lw_tbl) (hci : ci < 12) (hN : hp_nf.getD ci 0 = N) (hk : k < N) (hr : hp_isr ci k = true) (hl : Cond.fieldLink own index (T k).1 (T k).2.1 (T k).2.2.1 ∈ lw_tbl) (hka : h.1 a = ci + 1) {o : Option Nat} (ho : o = h.2.2.2.1 a k) (hdg : decode cc pc = .ok (.getfield index, 3))
    (kk : W p l e R s m args below meth c H locs cells slots Q (F0 m (pc + 3) ls (va_rf o :: rest))) : W p l e R s m args below meth c H locs cells slots Q (F0 m pc ls (.ref a :: rest)) := by
  obtain ⟨hx, hb, hml, hown, hts⟩ := cx
  refine va_get (D := D) (ci := ci) (v := va_rf o) hx hb hts (u_inG hin) hown hB.2.1 (hp_one hB (by omega) (hp_c_obj hka hci)) 0 rfl hc k hk (hts _ (tb_in hl rfl)) (fun _ h9 => h9) ?_ hdg kk
  rw [hp_fs_get (by omega), ho]
  simp [hp_fv, hr]
theorem hp_putX (cx : CallFix p m c cc nL s args tbG own) (hB : hp_B D cA A s h H locs) {C : String} {T : u_T} {N ci index : Nat} (k : Nat) (ty0 : Nat → FieldType) (hty : ∀ k, k < N → parseFieldDescriptor (T k).2.2.1 = some (ty0 k)) (hnm : ∀ a, a < N → ∀ b, b < N → a ≠ b → (T a).2.1 ≠ (T b).2.1) (hc : vwCl[ci]? = some (C, T, N)) (hin : ∀ w ∈ u_ws C T N, w ∈ lw_tbl) (hci : ci < 12) (hN : hp_nf.getD ci 0 = N) (hk : k < N) (hfin : (T k).2.2.2 = false ∨ ((T k).2.2.2 = true ∧ meth.name = "<init>" ∧ (T k).1 = own)) (hl : Cond.fieldLink own index (T k).1 (T k).2.1 (T k).2.2.1 ∈ lw_tbl) (hka : h.1 a = ci + 1) {v : Value} {h' : Hp} (hlk : hp_like h h' a) (hfs : (hp_fs h ci a).set k v = hp_fs h' ci a) (hn : narrow (ty0 k) v = v) (hfit : fits (ty0 k) v = true) (hdg : decode cc pc = .ok (.putfield index, 3))
    (kk : ∀ (H1 : Heap) (locs1 : List Loc), hp_B D cA A s h' H1 locs1 → W p l e R s m args below meth c H1 locs1 cells slots Q (F0 m (pc + 3) ls rest)) : W p l e R s m args below meth c H locs cells slots Q (F0 m pc ls (v :: .ref a :: rest)) := by
  obtain ⟨hx, hb, hml, hown, hts⟩ := cx
  have hin' := u_inG hin
  have hK := hB.2.1
  have hap := va_apart (own := own) hts hin' ty0 hty hnm hK hc
  have hP := hp_one hB (by omega) (hp_c_obj hka hci)
  obtain ⟨r, h1, cell, q1, q2, q3, q4⟩ := hP 0 _ rfl
  have hr : r = (C, T, N) := Option.some.inj (h1.symm.trans hc)
  subst hr
  obtain ⟨hS, hfc, kC, hkC, hkind⟩ := hK.1 ci _ hc
  obtain ⟨cf, kf, fi, f, hi, hsl⟩ := hS k hk
  have hlay := hts _ (hin' _ (u_in_lay hk))
  unfold u_lay at hlay
  have hst := (u_facts hfc hkC (u_lays hts hin' hk) hi).1
  have hd := hty k hk
  have hl' := hts _ (tb_in hl rfl)
  have fin : ∀ H' : Heap, H'[a]? = some (cell.setSlot (D.2 ci k) v) → H'.size = H.size → (∀ q, q ≠ a → H'[q]? = H[q]?) → hp_B D cA A s h' H' (locs ++ [⟨a, D.2 ci k⟩]) := fun H' e1 e2 e3 => by
    refine hB.set (by omega) hlk ?_ e2 e3
    rw [hp_c_obj (by rw [hlk.1]; exact hka) hci, ← hfs]
    exact ⟨_, hc, t_OB.to (V := updV (vp_V (hp_fs h ci a)) k v) ⟨_, e1, q2, q3, t_set q4 hap hk v⟩ (fun j _ => vp_updV_set (by rw [hp_fs_len]; omega) v j)⟩
  rcases hfin with hfin | ⟨hfin, hin2, hdecl⟩
  · rw [if_neg (by rw [hfin]; decide)] at hlay
    have h6 := u_store hfc hkC hkind hlay hi hd hn hfit
    refine W.putK hx hb (f := f) ⟨hown, hl', ⟨_, _, _, hi⟩, hst⟩ (by rw [q2]; exact h6) q1 q3 (by rw [hsl]; exact k2_hasslot (q4 k hk)) rfl rfl hdg fun H' e1 e2 e3 => ?_
    rw [hsl] at e1 ⊢
    exact kk H' _ (fin H' e1 e2 e3)
  · rw [if_pos hfin] at hlay
    have hcf : m.cls = cf := by
      obtain ⟨_, _, c', _, _, _, -, -, hf', -, -, -, hown2, -⟩ := Cond.laysFinal_spec hlay
      have e1 : c' = cf := by have := hi.symm.trans hf'; simp at this; exact this.1.symm
      rw [hdecl] at hown2
      rw [← e1]; exact Option.some.inj (hown.symm.trans hown2)
    have h6 := u_fits hfc hkC hkind (Or.inr hlay) hi hd hn hfit
    refine W.putFinK hx hb hown hl' hi hst hcf hin2 (by rw [q2]; exact h6) q1 q3 (by rw [hsl]; exact k2_hasslot (q4 k hk)) rfl rfl hdg fun H' e1 e2 e3 => ?_
    rw [hsl] at e1 ⊢
    exact kk H' _ (fin H' e1 e2 e3)
theorem hp_fitR {ty : FieldType} (hty : (∃ n, ty = .object n) ∨ ∃ t, ty = .array t) (v : Option Nat) : narrow ty (va_rf v) = va_rf v ∧ fits ty (va_rf v) = true := by
  rcases hty with ⟨n, rfl⟩ | ⟨t, rfl⟩ <;> cases v <;> exact ⟨rfl, rfl⟩
theorem hp_iald (cx : CallFix p m c cc nL s args tbG own) (hB : hp_B D cA A s h H locs) (hka : h.1 a = 13) {i : Int32} (hi : ix i (h.2.1 a) = true) (hdg : decode cc pc = .ok (.iaload, 1))
    (kk : W p l e R s m args below meth c H locs cells slots Q (F0 m (pc + 1) ls (.int (h.2.2.1 a i.toNatClampNeg) :: rest))) : W p l e R s m args below meth c H locs cells slots Q (F0 m pc ls (.int i :: .ref a :: rest)) :=
  va_iald cx.1 cx.2.1 hB.2.1 (hp_one hB (by omega) (hp_c_int hka)) 0 0 rfl rfl (ix_in hi) hdg kk
theorem hp_zald (cx : CallFix p m c cc nL s args tbG own) (hB : hp_B D cA A s h H locs) (hka : h.1 a = 14) {i : Int32} (hi : ix i (h.2.1 a) = true) (hdg : decode cc pc = .ok (.baload, 1))
    (kk : W p l e R s m args below meth c H locs cells slots Q (F0 m (pc + 1) ls (.int (h.2.2.1 a i.toNatClampNeg) :: rest))) : W p l e R s m args below meth c H locs cells slots Q (F0 m pc ls (.int i :: .ref a :: rest)) :=
  va_zald cx.1 cx.2.1 hB.2.1 (hp_one hB (by omega) (hp_c_bool hka)) 0 1 rfl rfl (ix_in hi) hdg kk
theorem hp_aald (cx : CallFix p m c cc nL s args tbG own) (hB : hp_B D cA A s h H locs) (kd : Nat) (ty : FieldType) (hkd : 15 ≤ kd) (ht : (hp_ty cA)[kd - 13]? = some (cA kd, ty)) (hty : ty.isReference = true) (hka : h.1 a = kd) {i : Int32} (hi : ix i (h.2.1 a) = true) {o : Option Nat} (ho : o = h.2.2.2.1 a i.toNatClampNeg) (hdg : decode cc pc = .ok (.aaload, 1))
    (kk : W p l e R s m args below meth c H locs cells slots Q (F0 m (pc + 1) ls (va_rf o :: rest))) : W p l e R s m args below meth c H locs cells slots Q (F0 m pc ls (.int i :: .ref a :: rest)) := by
  have hin := ix_in hi
  have hlt : i.toNatClampNeg < h.2.1 a := Nat.not_le.mp fun q => hin (Or.inr q)
  subst hka
  have hP := hp_one hB (by omega) (hp_c_ref hkd)
  subst ho
  exact W.aald (v := va_rf (h.2.2.2.1 a i.toNatClampNeg)) (ty := ty) cx.1 cx.2.1 (hP 0 _ rfl) ((hB.2.1.2 _ _ ht).1 (h.2.1 a) (fun j => va_rf (h.2.2.2.1 a j))) hty (fun q => by cases q) (by show ¬ (i < 0 ∨ (arrV _ _ _).slots.size ≤ _); rw [arrV_size]; exact hin) (by show (arrV _ _ _).slots[_]? = _; rw [arrV_read _ _ hlt]) rfl rfl hdg kk
theorem hp_alen (cx : CallFix p m c cc nL s args tbG own) (hB : hp_B D cA A s h H locs) (kd : Nat) (ty : FieldType) (hkd : 13 ≤ kd) (ht : (hp_ty cA)[kd - 13]? = some (cA kd, ty)) (hka : h.1 a = kd) (hdg : decode cc pc = .ok (.arraylength, 1))
    (kk : W p l e R s m args below meth c H locs cells slots Q (F0 m (pc + 1) ls (.int (Int32.ofNat (h.2.1 a)) :: rest))) : W p l e R s m args below meth c H locs cells slots Q (F0 m pc ls (.ref a :: rest)) := by
  subst hka
  have hx : ∃ x : vp_A, x.1 = h.2.1 a ∧ hp_c cA h a = .inl (cA (h.1 a), x) := by
    unfold hp_c
    rw [if_neg (by omega)]
    split
    · exact ⟨_, rfl, rfl⟩
    · exact ⟨_, rfl, rfl⟩
  obtain ⟨x, hx1, hx2⟩ := hx
  exact va_alen cx.1 cx.2.1 hB.2.1 (hp_one hB (by omega) hx2) 0 (h.1 a - 13) rfl ht (by rw [hx1]) hdg kk
end HPR
end
section
/-! rows of the heap that write, make, call and return -/
def hp_Qi (D : va_G) (cA : Nat → ClassId) (h h' : Hp) (r : Int32) : Array Value → State → Outcome → State → Prop := va_Qi (fun (r' : Int32) (_ : Unit) => r' = r ∧ ∀ a, h'.1 a ≠ 0 → hp_A h a) (fun _ t => hp_U D cA h' t) (hp_A h)
def hp_Qv (D : va_G) (cA : Nat → ClassId) (h h' : Hp) : Array Value → State → Outcome → State → Prop := va_Qv (fun (_ : Unit) => ∀ a, h'.1 a ≠ 0 → hp_A h a) (fun _ t => hp_U D cA h' t) (hp_A h)
def hp_Qr (D : va_G) (cA : Nat → ClassId) (h h' : Hp) (r : Option Nat) : Array Value → State → Outcome → State → Prop := va_Qq (fun (r' : Option Nat) (_ : Unit) => r' = r ∧ ∀ a, h'.1 a ≠ 0 → hp_A h a) (fun _ t => hp_U D cA h' t) (hp_A h)
section HPS
variable {p : Program} {l : Launch} {e : Env} {R : Room} {s : State} {m : MethodId} {args : Array Value} {below : List Frame} {meth : Method} {c : Code} {H : Heap} {locs : List Loc} {cells slots : Nat} {Q : State → Prop}
variable {cc : ByteArray} {pc nL : Nat} {ls : Array Slot} {rest : List Value} {D : va_G} {cA : Nat → ClassId} {A : Nat → Prop} {a : Nat} {h : Hp} {own : String}
theorem hp_iast (cx : CallFix p m c cc nL s args tbG own) (hB : hp_B D cA A s h H locs) (hka : h.1 a = 13) {i x : Int32} (hi : ix i (h.2.1 a) = true) (hdg : decode cc pc = .ok (.iastore, 1))
    (kk : ∀ (H1 : Heap) (locs1 : List Loc), hp_B D cA A s (hp_si h a i.toNatClampNeg x) H1 locs1 → W p l e R s m args below meth c H1 locs1 cells slots Q (F0 m (pc + 1) ls rest)) : W p l e R s m args below meth c H locs cells slots Q (F0 m pc ls (.int x :: .int i :: .ref a :: rest)) := by
  have hin := ix_in hi
  have hP := hp_one hB (by omega) (hp_c_int hka)
  refine W.iast cx.1 cx.2.1 (hP 0 _ rfl) ((hB.2.1.2 0 _ rfl).1 (h.2.1 a) (fun j => .int (h.2.2.1 a j))) (fun q => by cases q) (by show ¬ (i < 0 ∨ (arrV _ _ _).slots.size ≤ _); rw [arrV_size]; exact hin) rfl rfl hdg fun H1 e z oq => ?_
  refine kk H1 _ (hB.set (a := a) (by omega) (hp_like_si h a i.toNatClampNeg x) ?_ z oq)
  rw [hp_c_int (by exact hka)]
  show H1[a]? = some (vp_cell _ _)
  rw [e, vp_cell_i, vp_cell_i, arrV_store]
  congr 2
  funext q
  by_cases hq : q = i.toNatClampNeg
  · subst hq
    simp [updV, hp_si, u2_row, va_up]
  · simp [updV, hp_si, u2_row, va_up, hq]
theorem hp_zast (cx : CallFix p m c cc nL s args tbG own) (hB : hp_B D cA A s h H locs) (hka : h.1 a = 14) {i x : Int32} (hi : ix i (h.2.1 a) = true) (hx : zb x = true) (hdg : decode cc pc = .ok (.bastore, 1))
    (kk : ∀ (H1 : Heap) (locs1 : List Loc), hp_B D cA A s (hp_si h a i.toNatClampNeg x) H1 locs1 → W p l e R s m args below meth c H1 locs1 cells slots Q (F0 m (pc + 1) ls rest)) : W p l e R s m args below meth c H locs cells slots Q (F0 m pc ls (.int x :: .int i :: .ref a :: rest)) := by
  have hin := ix_in hi
  have hP := hp_one hB (by omega) (hp_c_bool hka)
  refine W.zast cx.1 cx.2.1 (hP 0 _ rfl) ((hB.2.1.2 1 _ rfl).1 (h.2.1 a) (fun j => .int (h.2.2.1 a j))) (fun q => by cases q) (by show ¬ (i < 0 ∨ (arrV _ _ _).slots.size ≤ _); rw [arrV_size]; exact hin) rfl rfl hdg fun H1 e z oq => ?_
  refine kk H1 _ (hB.set (a := a) (by omega) (hp_like_si h a i.toNatClampNeg x) ?_ z oq)
  rw [hp_c_bool (by exact hka)]
  show H1[a]? = some (vp_cell _ _)
  rw [e, vp_cell_i, vp_cell_i, arrV_store]
  congr 2
  funext q
  by_cases hq : q = i.toNatClampNeg
  · subst hq
    have hz := zb_nar hx
    simp [updV, hp_si, u2_row, va_up, hz]
  · simp [updV, hp_si, u2_row, va_up, hq]
theorem hp_aast (cx : CallFix p m c cc nL s args tbG own) (hB : hp_B D cA A s h H locs) (kd ci : Nat) {r : vw_C} (hkd : 15 ≤ kd) (ht : (hp_ty cA)[kd - 13]? = some (cA kd, .object r.1)) (hc : vwCl[ci]? = some r) (hci : ci < 12) (hka : h.1 a = kd) {v : Nat} (hkv : h.1 v = ci + 1) {i : Int32} (hi : ix i (h.2.1 a) = true) (hdg : decode cc pc = .ok (.aastore, 1))
    (kk : ∀ (H1 : Heap) (locs1 : List Loc), hp_B D cA A s (hp_sr h a i.toNatClampNeg (some v)) H1 locs1 → W p l e R s m args below meth c H1 locs1 cells slots Q (F0 m (pc + 1) ls rest)) : W p l e R s m args below meth c H locs cells slots Q (F0 m pc ls (.ref v :: .int i :: .ref a :: rest)) := by
  have hin := ix_in hi
  have hlt : i.toNatClampNeg < h.2.1 a := Nat.not_le.mp fun q => hin (Or.inr q)
  have h0 : ¬ i < 0 := fun q => hin (Or.inl q)
  have hK := hB.2.1
  have hPv := hp_one hB (by omega) (hp_c_obj hkv hci)
  subst hka
  have hP := hp_one hB (by omega) (hp_c_ref hkd)
  obtain ⟨r', hr', cellV, g1, g2, g3, -⟩ := hPv 0 _ rfl
  have hcls := (hK.1 ci r hc).2
  obtain ⟨kA, comp, k1, k2, k3, -⟩ := (hK.2 _ _ ht).2
  have hcomp : comp = D.1 ci := Option.some.inj (k3.symm.trans hcls.1)
  subst hcomp
  obtain ⟨kC, hkC, -⟩ := hcls.2
  refine W.aast cx.1 cx.2.1 (hP 0 _ rfl) (fun q h => by cases h) (fun h => by cases h) k1 k2 rfl hkC ⟨h0, by show _ < (arrV _ _ _).slots.size; rw [arrV_size]; exact hlt⟩ g1 (fun q h => by rw [g3] at h; cases h) (by rw [g2]; exact hkC) (by rw [g2]; exact va_assign hcls) rfl rfl hdg fun H1 e z oq => ?_
  refine kk H1 _ (hB.set (a := a) (by omega) (hp_like_sr h a i.toNatClampNeg (some v)) ?_ z oq)
  rw [hp_c_ref (show 15 ≤ (hp_sr h a i.toNatClampNeg (some v)).1 a from hkd)]
  show H1[a]? = some (vp_cell _ _)
  rw [e, vp_cell_q, vp_cell_q, arrV_store]
  congr 2
  funext q
  by_cases hq : q = i.toNatClampNeg
  · subst hq
    simp [updV, hp_sr, u2_row, va_up, va_rf]
  · simp [updV, hp_sr, u2_row, va_up, hq]
theorem hp_new (cx : CallFix p m c cc nL s args tbG own) (hB : hp_B D cA A s h H locs) {C : String} {T : u_T} {N ci index : Nat} (ty : Nat → FieldType) (hty : ∀ k, k < N → parseFieldDescriptor (T k).2.2.1 = some (ty k)) (hc : vwCl[ci]? = some (C, T, N)) (hin : ∀ w ∈ u_ws C T N, w ∈ lw_tbl) (hci : ci < 12) (hN : hp_nf.getD ci 0 = N) (hdv : ∀ k, k < N → defaultValue (ty k) = if hp_isr ci k = true then .null else .int 0) (hcl : Cond.classLink own index C ∈ lw_tbl) (hinst : Cond.instantiable C N ∈ lw_tbl) (hini : Cond.initialized C ∈ lw_tbl) {q : Nat} (hq : q = h.2.2.2.2) (hcells : cells + 1 ≤ R.cells) (hslots : slots + N ≤ R.slots) (hdg : decode cc pc = .ok (.new index, 3))
    (kk : ∀ (H1 : Heap), hp_B D cA A s (hp_nw h (ci + 1) 0) H1 locs → W p l e R s m args below meth c H1 locs (cells + 1) (slots + N) Q (F0 m (pc + 3) ls (.ref q :: rest))) : W p l e R s m args below meth c H locs cells slots Q (F0 m pc ls rest) := by
  obtain ⟨hx, hb, hml, hown, hts⟩ := cx
  subst hq
  have hKn := hB.2.1.1 ci _ hc
  refine W.newcK hx hb hown (hts _ (tb_in hcl rfl)) (hts _ (tb_in hinst rfl)) (hts _ (tb_in hini rfl)) rfl hdg hcells hslots hKn.2.1 hB.1.1 fun H1 kC hkC e1 z1 o1 => ?_
  refine kk H1 (hp_new_B hB ?_ (by rw [z1, hB.1.1]) (by rw [hB.1.1]; exact o1))
  rw [hp_c_obj (by exact va_up_self _ _ _) hci]
  refine ⟨_, hc, (u_born ty hts (u_inG hin) hKn hkC e1 hty).to (fun k hk => ?_)⟩
  simp only [vp_V, List.getD, hp_fs_get (show k < hp_nf.getD ci 0 by omega), Option.getD_some, hp_new_fv]
  exact hdv k hk
theorem hp_newa (cx : CallFix p m c cc nL s args tbG own) (hB : hp_B D cA A s h H locs) (kd : Nat) {atype : ArrayType} {ty : FieldType} (hty : newarray.typeOf atype = ty) (hkd : kd = 13 ∨ kd = 14) (ht : (hp_ty cA)[kd - 13]? = some (cA kd, ty)) (hra : va_RA s (cA kd) ty → s.vm.findClass ("[" ++ ty.toString) = some (cA kd)) (hdv : defaultValue ty = .int 0) (harr : Cond.arrayClass ty ∈ lw_tbl) {n : Int32} {N' : Nat} {q : Nat} (hq : q = h.2.2.2.2) (hn : ¬ n < 0) (hN : n.toNatClampNeg = N') (hbytes : N' * componentBytes ty ≤ 536870912) (hcells : cells + 1 ≤ R.cells) (hslots : slots + N' ≤ R.slots) (hdg : decode cc pc = .ok (.newarray atype, 2))
    (kk : ∀ (H1 : Heap), hp_B D cA A s (hp_nw h kd N') H1 locs → W p l e R s m args below meth c H1 locs (cells + 1) (slots + N') Q (F0 m (pc + 2) ls (.ref q :: rest))) : W p l e R s m args below meth c H locs cells slots Q (F0 m pc ls (.int n :: rest)) := by
  obtain ⟨hx, hb, hml, hown, hts⟩ := cx
  subst hq
  subst hty
  refine va_newaK hx hb (hts _ (tb_in harr rfl)) rfl hdg rfl hn hN hbytes hcells hslots hB.1.1 fun H1 cA' e1 z1 o1 hAr hNm => ?_
  have he : cA' = cA kd := Option.some.inj (hNm.symm.trans (hra (hB.2.1.2 _ _ ht).2))
  subst he
  refine kk H1 (hp_new_B hB ?_ (by rw [z1, hB.1.1]) (by rw [hB.1.1]; exact o1))
  have hk : (hp_nw h kd N').1 h.2.2.2.2 = kd := va_up_self _ _ _
  have hv : (hp_nw h kd N').2.2.1 h.2.2.2.2 = fun _ => 0 := va_up_self _ _ _
  have hl : (hp_nw h kd N').2.1 h.2.2.2.2 = N' := va_up_self _ _ _
  have hcc : hp_c cA (hp_nw h kd N') h.2.2.2.2 = .inl (cA kd, N', .inl (fun _ => 0)) := by
    rcases hkd with rfl | rfl
    · rw [hp_c_int hk, hl, hv]
    · rw [hp_c_bool hk, hl, hv]
  rw [hcc]
  show H1[h.2.2.2.2]? = some (vp_cell _ _)
  rw [e1, vp_cell_i, hdv]
theorem hp_newq (cx : CallFix p m c cc nL s args tbG own) (hB : hp_B D cA A s h H locs) (kd : Nat) {C : String} {index : Nat} (hkd : 15 ≤ kd) (ht : (hp_ty cA)[kd - 13]? = some (cA kd, .object C)) (hclink : Cond.classLink own index C ∈ lw_tbl) (hover : hp_N s → va_AO C s) {n : Int32} {N' : Nat} {q : Nat} (hq : q = h.2.2.2.2) (hn : ¬ n < 0) (hN : n.toNatClampNeg = N') (hbytes : N' * 4 ≤ 536870912) (hcells : cells + 1 ≤ R.cells) (hslots : slots + N' ≤ R.slots) (hdg : decode cc pc = .ok (.anewarray index, 3))
    (kk : ∀ (H1 : Heap), hp_B D cA A s (hp_nw h kd N') H1 locs → W p l e R s m args below meth c H1 locs (cells + 1) (slots + N') Q (F0 m (pc + 3) ls (.ref q :: rest))) : W p l e R s m args below meth c H locs cells slots Q (F0 m pc ls (.int n :: rest)) := by
  obtain ⟨hx, hb, hml, hown, hts⟩ := cx
  subst hq
  subst hN
  refine W.anew hx hb hown (hts _ (tb_in hclink rfl)) (va_AO.use (hover hB.2.2.1)) rfl hdg rfl hn hbytes hcells hslots fun cA' kA comp f1 f2 f3 f4 => ?_
  rw [hB.1.1]
  have hz0 := hB.1.1
  obtain ⟨kA', comp', g1, g2, g3, g4⟩ := (hB.2.1.2 _ _ ht).2
  have he : cA' = cA kd := Option.some.inj (f1.symm.trans g4)
  subst he
  refine kk _ (hp_new_B hB ?_ (by rw [Array.size_push]) (fun q hq => by rw [Array.getElem?_push, if_neg (Nat.ne_of_lt hq)]))
  have hk : (hp_nw h kd n.toNatClampNeg).1 h.2.2.2.2 = kd := va_up_self _ _ _
  have hv : (hp_nw h kd n.toNatClampNeg).2.2.2.1 h.2.2.2.2 = fun _ => none := va_up_self _ _ _
  have hl : (hp_nw h kd n.toNatClampNeg).2.1 h.2.2.2.2 = n.toNatClampNeg := va_up_self _ _ _
  rw [hp_c_ref (by rw [hk]; exact hkd), hk, hl, hv]
  show (H.push _)[h.2.2.2.2]? = some (vp_cell _ _)
  rw [← hz0, Array.getElem?_push_size, vp_cell_q, ← arrV_new]
  rfl
theorem hp_iret {h0 : Hp} {mc ms : Nat} {r : Int32} (cx : CallFix p m c cc nL s args tbG own) (hB : hp_B D cA (hp_A h0) s h H locs) (hr : meth.sig.returnType = some .int) (hlk : meth.locks = false) (hm : cells ≤ mc) (hs : slots ≤ ms) (hdg : decode cc pc = .ok (.ireturn, 1)) : W p l e R s m args below meth c H locs cells slots (MQ below (hp_Qi D cA h0 h r) args s mc ms (hp_A h0)) (F0 m pc ls [.int r]) :=
  W.widen hm hs (W.iret cx.1 cx.2.1 hr (fun t ht hW => ⟨⟨r, (), rfl, ⟨rfl, hB.2.2.2.1⟩, hB.U ht hW⟩, hB.2.2.2.2.2.F ht⟩) hB.2.2.2.2.2.2.2 hdg hlk)
theorem hp_zret {h0 : Hp} {mc ms : Nat} {r : Int32} (cx : CallFix p m c cc nL s args tbG own) (hB : hp_B D cA (hp_A h0) s h H locs) (hr : meth.sig.returnType = some .boolean) (hlk : meth.locks = false) (hm : cells ≤ mc) (hs : slots ≤ ms) (hz : zb r = true) (hdg : decode cc pc = .ok (.ireturn, 1)) : W p l e R s m args below meth c H locs cells slots (MQ below (hp_Qi D cA h0 h r) args s mc ms (hp_A h0)) (F0 m pc ls [.int r]) :=
  W.widen hm hs (W.zret cx.1 cx.2.1 hr (zb_nar hz) (fun t ht hW => ⟨⟨r, (), rfl, ⟨rfl, hB.2.2.2.1⟩, hB.U ht hW⟩, hB.2.2.2.2.2.F ht⟩) hB.2.2.2.2.2.2.2 hdg hlk)
theorem hp_vret {h0 : Hp} {mc ms : Nat} (cx : CallFix p m c cc nL s args tbG own) (hB : hp_B D cA (hp_A h0) s h H locs) (hr : meth.sig.returnType = none) (hlk : meth.locks = false) (hm : cells ≤ mc) (hs : slots ≤ ms) (hdg : decode cc pc = .ok (.return_, 1)) : W p l e R s m args below meth c H locs cells slots (MQ below (hp_Qv D cA h0 h) args s mc ms (hp_A h0)) (F0 m pc ls []) :=
  W.widen hm hs (W.vret cx.1 cx.2.1 hr (fun t ht hW => ⟨⟨(), rfl, hB.2.2.2.1, hB.U ht hW⟩, hB.2.2.2.2.2.F ht⟩) hB.2.2.2.2.2.2.2 hdg hlk)
theorem hp_aret {h0 : Hp} {mc ms : Nat} {r : Option Nat} {rt : FieldType} (cx : CallFix p m c cc nL s args tbG own) (hB : hp_B D cA (hp_A h0) s h H locs) (hr : meth.sig.returnType = some rt) (hrt : (∃ n, rt = .object n) ∨ ∃ t, rt = .array t) (hlk : meth.locks = false) (hm : cells ≤ mc) (hs : slots ≤ ms) (hdg : decode cc pc = .ok (.areturn, 1)) : W p l e R s m args below meth c H locs cells slots (MQ below (hp_Qr D cA h0 h r) args s mc ms (hp_A h0)) (F0 m pc ls [va_rf r]) :=
  W.widen hm hs (W.aret cx.1 cx.2.1 hr hrt (va_rf_or r) (fun t ht hW => ⟨⟨r, (), rfl, ⟨rfl, hB.2.2.2.1⟩, hB.U ht hW⟩, hB.2.2.2.2.2.F ht⟩) hB.2.2.2.2.2.2.2 hdg hlk)
theorem hp_call_A {q : Nat} (hB : hp_B D cA A s h H locs) (hq : hp_A h q) : A q := by
  rcases hq with h1 | h1
  · exact hB.2.2.2.1 q h1
  · exact hB.2.2.2.2.1 q (Nat.le_trans hB.2.2.2.2.2.1 (by rw [hB.1.1]; exact h1))
theorem hp_back {h' : Hp} {t : State} {H1 : Heap} {locs1 : List Loc} (hB : hp_B D cA A s h H locs) (ht : t.heap = H1) (hd : ∀ a, h'.1 a ≠ 0 → hp_A h a) (hU : hp_U D cA h' t) (hS : va_S A s.heap H1 locs1) : hp_B D cA A s h' H1 locs1 :=
  ⟨by rw [← ht]; exact hU.1, hB.2.1, hB.2.2.1, fun b hb => hp_call_A hB (hd b hb), hB.2.2.2.2.1, hS⟩
variable {st0 : List Value} {av : Array Value} {mc ms : Nat} {h' : Hp}
theorem hp_cI {r : Int32} (hr : va_Run p l e R s m args below meth c H locs cells slots mc ms (F0 m pc ls st0) rest (hp_Qi D cA h h' r av) (hp_A h)) (hB : hp_B D cA A s h H locs)
    (kk : ∀ (H1 : Heap) (locs1 : List Loc), hp_B D cA A s h' H1 locs1 → W p l e R s m args below meth c H1 locs1 (cells + mc) (slots + ms) Q (F0 m (pc + 3) ls (.int r :: rest))) : W p l e R s m args below meth c H locs cells slots Q (F0 m pc ls st0) :=
  va_calli hr hB.2.2.2.2.2 (fun _ _ hq => hp_call_A hB hq) (fun _ hq => hp_call_A hB hq) (fun r' _ t H1 locs1 ht _ hw hU _ _ hS => by
    obtain ⟨rfl, hd⟩ := hw
    exact kk H1 locs1 (hp_back hB ht hd hU hS))
theorem hp_cV (hr : va_Run p l e R s m args below meth c H locs cells slots mc ms (F0 m pc ls st0) rest (hp_Qv D cA h h' av) (hp_A h)) (hB : hp_B D cA A s h H locs)
    (kk : ∀ (H1 : Heap) (locs1 : List Loc), hp_B D cA A s h' H1 locs1 → W p l e R s m args below meth c H1 locs1 (cells + mc) (slots + ms) Q (F0 m (pc + 3) ls rest)) : W p l e R s m args below meth c H locs cells slots Q (F0 m pc ls st0) :=
  va_callv hr hB.2.2.2.2.2 (fun _ _ hq => hp_call_A hB hq) (fun _ hq => hp_call_A hB hq) (fun _ t H1 locs1 ht _ hd hU _ _ hS => kk H1 locs1 (hp_back hB ht hd hU hS))
theorem hp_cR {r : Option Nat} (hr : va_Run p l e R s m args below meth c H locs cells slots mc ms (F0 m pc ls st0) rest (hp_Qr D cA h h' r av) (hp_A h)) (hB : hp_B D cA A s h H locs)
    (kk : ∀ (H1 : Heap) (locs1 : List Loc), hp_B D cA A s h' H1 locs1 → W p l e R s m args below meth c H1 locs1 (cells + mc) (slots + ms) Q (F0 m (pc + 3) ls (va_rf r :: rest))) : W p l e R s m args below meth c H locs cells slots Q (F0 m pc ls st0) :=
  va_callq hr hB.2.2.2.2.2 (fun _ _ hq => hp_call_A hB hq) (fun _ hq => hp_call_A hB hq) (fun r' _ t H1 locs1 ht _ hw hU _ _ hS => by
    obtain ⟨rfl, hd⟩ := hw
    exact kk H1 locs1 (hp_back hB ht hd hU hS))
variable {y : MethodName} {bytes : ByteArray} {maxL n index ci : Nat} {ret : Option FieldType} {rm : Room} {Qc : Array Value → State → Outcome → State → Prop} {b : Nat} {As : List Value}
theorem tb_GI {y : MethodName} {bytes : ByteArray} {maxL : Nat} {ret : Option FieldType} (hcd : Cond.code y bytes maxL ret ∈ lw_tbl) : GoodIn tbG (Cond.code y bytes maxL ret :: tbG) := fun w hw => by
  rcases List.mem_cons.mp hw with rfl | hw
  · exact ⟨tb_in hcd rfl, good_of_word rfl⟩
  · exact ⟨hw, good_of_word (tb_good hw)⟩
abbrev hp_M (l : Launch) (y : MethodName) (bytes : ByteArray) (maxL : Nat) (ret : Option FieldType) (rm : Room) (D : va_G) (cA : Nat → ClassId) (h : Hp) (av : List Value) (Qc : Array Value → State → Outcome → State → Prop) : Prop :=
  Met l y (Cond.code y bytes maxL ret :: tbG) rm (va_Pc av (hp_U D cA h)) Qc rm.cells rm.slots (hp_A h)
theorem hp_runV (cx : CallFix p m c cc nL s args tbG own) (hB : hp_B D cA A s h H locs) (hM : hp_M l y bytes maxL ret rm D cA h (.ref b :: As) Qc) {r : vw_C} (hc : vwCl[ci]? = some r) (hci : ci < 12) (hkb : h.1 b = ci + 1) (hcd : Cond.code y bytes maxL ret ∈ lw_tbl) (hl : Cond.methodLink own index y ∈ lw_tbl) (hi : Cond.instanceMethod y ∈ lw_tbl) (hse : Cond.selects r.1 y y ∈ lw_tbl) (hini : Cond.initialized r.1 ∈ lw_tbl)
    (hd : y.cls = r.1 ∧ y.cls ≠ "java/lang/invoke/MethodHandle" ∧ y.cls ≠ "java/lang/invoke/VarHandle" ∧ (parseMethodDescriptor y.desc).map (fun d => d.parameters.length) = some n) (hR : rm.frames + 1 ≤ R.frames ∧ 8 + (maxL + 11) + rm.locals ≤ R.locals) (hn : As.length = n) (hls : ls.size = nL) (hst : st0 = As.reverse ++ .ref b :: rest) (hW : (rest.map fun v => v.category).sum ≤ 8) (hf : cells + rm.cells ≤ R.cells ∧ slots + rm.slots ≤ R.slots) (hdg : decode cc pc = .ok (.invokevirtual index, 3)) :
    va_Run p l e R s m args below meth c H locs cells slots rm.cells rm.slots (F0 m pc ls st0) rest (Qc (Value.ref b :: As).toArray) (hp_A h) := by
  have hG : GoodIn tbG (wsV own index r.1 y (Cond.code y bytes maxL ret :: tbG)) := fun w hw => by
    unfold wsV at hw
    rcases List.mem_append.mp hw with hw | hw
    · simp only [List.mem_cons, List.not_mem_nil, or_false] at hw
      rcases hw with rfl | rfl | rfl | rfl
      · exact ⟨tb_in hl rfl, good_of_word rfl⟩
      · exact ⟨tb_in hi rfl, good_of_word rfl⟩
      · exact ⟨tb_in hse rfl, good_of_word rfl⟩
      · exact ⟨tb_in hini rfl, good_of_word rfl⟩
    · exact tb_GI hcd w hw
  exact va_runV (As := As) (rest := rest) cx hM (cwV n cx.2.2.2.2 hG rfl rfl rfl hd hR) ⟨hp_blind, va_recv hB.2.1 (hp_one hB (by omega) (hp_c_obj hkb hci)) hc (q0 := 0) rfl, fun U hU hW => ⟨rfl, hB.U hU hW⟩⟩ rfl hn hls hst (lv_room hW) hdg hf
theorem hp_runS (cx : CallFix p m c cc nL s args tbG own) (hB : hp_B D cA A s h H locs) (hM : hp_M l y bytes maxL ret rm D cA h As Qc) (hcd : Cond.code y bytes maxL ret ∈ lw_tbl) (hl : Cond.methodLink own index y ∈ lw_tbl) (hi : Cond.static y ∈ lw_tbl) (hini : Cond.initialized y.cls ∈ lw_tbl)
    (hd : y.cls ≠ "java/lang/invoke/MethodHandle" ∧ y.cls ≠ "java/lang/invoke/VarHandle" ∧ (parseMethodDescriptor y.desc).map (fun d => d.parameters.length) = some n) (hR : rm.frames + 1 ≤ R.frames ∧ 8 + (maxL + 11) + rm.locals ≤ R.locals) (hn : As.length = n) (hls : ls.size = nL) (hst : st0 = As.reverse ++ rest) (hW : (rest.map fun v => v.category).sum ≤ 8) (hf : cells + rm.cells ≤ R.cells ∧ slots + rm.slots ≤ R.slots) (hdg : decode cc pc = .ok (.invokestatic index, 3)) :
    va_Run p l e R s m args below meth c H locs cells slots rm.cells rm.slots (F0 m pc ls st0) rest (Qc As.toArray) (hp_A h) :=
  va_runS (As := As) (rest := rest) cx hM ⟨callB_of n cx.2.2.2.2 (tb_GI hcd) rfl rfl rfl (cx.2.2.2.2 _ (tb_in hini rfl)) (cx.2.2.2.2 _ (tb_in hl rfl)) hd hR, cx.2.2.2.2 _ (tb_in hi rfl)⟩ ⟨hp_blind, fun U hU hW => ⟨rfl, hB.U hU hW⟩⟩ rfl hn hls hst (lv_room hW) hdg hf
theorem hp_runSN {host : String} (cx : CallFix p m c cc nL s args tbG own) (hB : hp_B D cA A s h H locs) (hM : hp_M l y bytes maxL ret rm D cA h As Qc) (hcd : Cond.code y bytes maxL ret ∈ lw_tbl) (hl : Cond.methodLinkNest own index y host ∈ hp_NW) (hi : Cond.static y ∈ lw_tbl) (hini : Cond.initialized y.cls ∈ lw_tbl)
    (hd : y.cls ≠ "java/lang/invoke/MethodHandle" ∧ y.cls ≠ "java/lang/invoke/VarHandle" ∧ (parseMethodDescriptor y.desc).map (fun d => d.parameters.length) = some n) (hR : rm.frames + 1 ≤ R.frames ∧ 8 + (maxL + 11) + rm.locals ≤ R.locals) (hn : As.length = n) (hls : ls.size = nL) (hst : st0 = As.reverse ++ rest) (hW : (rest.map fun v => v.category).sum ≤ 8) (hf : cells + rm.cells ≤ R.cells ∧ slots + rm.slots ≤ R.slots) (hdg : decode cc pc = .ok (.invokestatic index, 3)) :
    va_Run p l e R s m args below meth c H locs cells slots rm.cells rm.slots (F0 m pc ls st0) rest (Qc As.toArray) (hp_A h) :=
  va_runSN (As := As) (rest := rest) cx hM ⟨va_cnB n cx.2.2.2.2 (tb_GI hcd) rfl rfl rfl (hB.2.2.1.1 _ hl) (cx.2.2.2.2 _ (tb_in hini rfl)) hd hR, cx.2.2.2.2 _ (tb_in hi rfl), trivial⟩ ⟨hp_blind, fun U hU hW => ⟨rfl, hB.U hU hW⟩⟩ rfl hn hls hst (lv_room hW) hdg hf
theorem hp_runI (cx : CallFix p m c cc nL s args tbG own) (hB : hp_B D cA A s h H locs) (hM : hp_M l y bytes maxL none rm D cA h (.ref b :: As) Qc) (hcd : Cond.code y bytes maxL none ∈ lw_tbl) (hl : Cond.methodLink own index y ∈ lw_tbl) (hi : Cond.instanceMethod y ∈ lw_tbl) (hini : Cond.initialized y.cls ∈ lw_tbl) (hy1 : y.name = "<init>")
    (hd : y.cls ≠ "java/lang/invoke/MethodHandle" ∧ y.cls ≠ "java/lang/invoke/VarHandle" ∧ (parseMethodDescriptor y.desc).map (fun d => d.parameters.length) = some n) (hR : rm.frames + 1 ≤ R.frames ∧ 8 + (maxL + 11) + rm.locals ≤ R.locals) (hn : As.length = n) (hls : ls.size = nL) (hst : st0 = As.reverse ++ .ref b :: rest) (hW : (rest.map fun v => v.category).sum ≤ 8) (hf : cells + rm.cells ≤ R.cells ∧ slots + rm.slots ≤ R.slots) (hdg : decode cc pc = .ok (.invokespecial index, 3)) :
    va_Run p l e R s m args below meth c H locs cells slots rm.cells rm.slots (F0 m pc ls st0) rest (Qc (Value.ref b :: As).toArray) (hp_A h) :=
  va_runI (As := As) (rest := rest) cx hM (cwI n cx.2.2.2.2 (tb_GI hcd) rfl rfl rfl (cx.2.2.2.2 _ (tb_in hini rfl)) (cx.2.2.2.2 _ (tb_in hl rfl)) (cx.2.2.2.2 _ (tb_in hi rfl)) hy1 hd hR) ⟨hp_blind, fun U hU hW => ⟨rfl, hB.U hU hW⟩⟩ rfl hn hls hst (lv_room hW) hdg hf
theorem hp_runIN {host : String} (cx : CallFix p m c cc nL s args tbG own) (hB : hp_B D cA A s h H locs) (hM : hp_M l y bytes maxL none rm D cA h (.ref b :: As) Qc) (hcd : Cond.code y bytes maxL none ∈ lw_tbl) (hl : Cond.methodLinkNest own index y host ∈ hp_NW) (hi : Cond.instanceMethod y ∈ lw_tbl) (hini : Cond.initialized y.cls ∈ lw_tbl) (hy1 : y.name = "<init>")
    (hd : y.cls ≠ "java/lang/invoke/MethodHandle" ∧ y.cls ≠ "java/lang/invoke/VarHandle" ∧ (parseMethodDescriptor y.desc).map (fun d => d.parameters.length) = some n) (hR : rm.frames + 1 ≤ R.frames ∧ 8 + (maxL + 11) + rm.locals ≤ R.locals) (hn : As.length = n) (hls : ls.size = nL) (hst : st0 = As.reverse ++ .ref b :: rest) (hW : (rest.map fun v => v.category).sum ≤ 8) (hf : cells + rm.cells ≤ R.cells ∧ slots + rm.slots ≤ R.slots) (hdg : decode cc pc = .ok (.invokespecial index, 3)) :
    va_Run p l e R s m args below meth c H locs cells slots rm.cells rm.slots (F0 m pc ls st0) rest (Qc (Value.ref b :: As).toArray) (hp_A h) :=
  va_runIN (As := As) (rest := rest) cx hM ⟨va_cnB n cx.2.2.2.2 (tb_GI hcd) rfl rfl rfl (hB.2.2.1.1 _ hl) (cx.2.2.2.2 _ (tb_in hini rfl)) hd hR, hy1, cx.2.2.2.2 _ (tb_in hi rfl)⟩ ⟨hp_blind, fun U hU hW => ⟨rfl, hB.U hU hW⟩⟩ rfl hn hls hst (lv_room hW) hdg hf
/-- null and references by one name -/
theorem lq_aload_n (hexec : p.tables.exec = Jvm.exec) (hb : c.code = cc) {k : Fin 4} {i : Nat} {o : Option Nat} (hdg : decode cc pc = .ok (.aload_n k, 1)) (hi : (k : Nat) = i) (hl : ls[i]? = some (.val (va_rf o))) (kk : W p l e R s m args below meth c H locs cells slots Q (F0 m (pc + 1) ls (va_rf o :: rest))) : W p l e R s m args below meth c H locs cells slots Q (F0 m pc ls rest) := by
  cases o with
  | none => exact lv_aload_nN hexec hb hdg hi hl kk
  | some a => exact lv_aload_n hexec hb hdg hi hl kk
theorem lq_aload (hexec : p.tables.exec = Jvm.exec) (hb : c.code = cc) {i : Nat} {o : Option Nat} (hdg : decode cc pc = .ok (.aload i, 2)) (hl : ls[i]? = some (.val (va_rf o))) (kk : W p l e R s m args below meth c H locs cells slots Q (F0 m (pc + 2) ls (va_rf o :: rest))) : W p l e R s m args below meth c H locs cells slots Q (F0 m pc ls rest) := by
  cases o with
  | none => exact lv_aloadN hexec hb hdg hl kk
  | some a => exact lv_aload hexec hb hdg hl kk
theorem lq_ifnull (hexec : p.tables.exec = Jvm.exec) (hb : c.code = cc) {o : Option Nat} {off : Int} {tgt : Nat} (hdg : decode cc pc = .ok (.ifnull off, 3)) (ht : (pc : Int) + off = (tgt : Int)) (k1 : o = none → W p l e R s m args below meth c H locs cells slots Q (F0 m tgt ls rest)) (k2 : ∀ a, o = some a → W p l e R s m args below meth c H locs cells slots Q (F0 m (pc + 3) ls rest)) : W p l e R s m args below meth c H locs cells slots Q (F0 m pc ls (va_rf o :: rest)) := by
  cases o with
  | none => exact lv_ifnullN hexec hb hdg ht (k1 rfl)
  | some a => exact lv_ifnull hexec hb hdg (k2 a rfl)
theorem lq_ifnonnull (hexec : p.tables.exec = Jvm.exec) (hb : c.code = cc) {o : Option Nat} {off : Int} {tgt : Nat} (hdg : decode cc pc = .ok (.ifnonnull off, 3)) (ht : (pc : Int) + off = (tgt : Int)) (k1 : o = none → W p l e R s m args below meth c H locs cells slots Q (F0 m (pc + 3) ls rest)) (k2 : ∀ a, o = some a → W p l e R s m args below meth c H locs cells slots Q (F0 m tgt ls rest)) : W p l e R s m args below meth c H locs cells slots Q (F0 m pc ls (va_rf o :: rest)) := by
  cases o with
  | none => exact lv_ifnonnullN hexec hb hdg (k1 rfl)
  | some a => exact lv_ifnonnull hexec hb hdg ht (k2 a rfl)
end HPS
end
