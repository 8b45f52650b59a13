/-- a private method of a class that the tables say can be made, by its rows of tables_1 -/
def lw_okq (q : MethodName × Nat) : Prop := (q.1.cls ≠ "java/lang/invoke/MethodHandle" ∧ q.1.cls ≠ "java/lang/invoke/VarHandle") ∧ Cond.instantiable q.1.cls q.2 ∈ tables_1 ∧ Cond.privateMethod q.1 ∈ tables_1 ∧ Cond.instanceMethod q.1 ∈ tables_1
theorem lw_p0 : lw_okq (⟨"SpokenMenus$Ways", "leastAt", "(LSpokenMenus$Place;LSpokenMenus$Caller;)I"⟩, 1) := ⟨⟨by decide +kernel, by decide +kernel⟩, List.mem_of_getElem? (i := 45) (by decide +kernel), List.mem_of_getElem? (i := 458) (by decide +kernel), List.mem_of_getElem? (i := 459) (by decide +kernel)⟩
theorem lw_p1 : lw_okq (⟨"SpokenMenus$Ways", "leastAtMenu", "(LSpokenMenus$Place;)I"⟩, 1) := ⟨⟨by decide +kernel, by decide +kernel⟩, List.mem_of_getElem? (i := 45) (by decide +kernel), List.mem_of_getElem? (i := 462) (by decide +kernel), List.mem_of_getElem? (i := 463) (by decide +kernel)⟩
theorem lw_p2 : lw_okq (⟨"SpokenMenus$Walk", "begin", "()V"⟩, 10) := ⟨⟨by decide +kernel, by decide +kernel⟩, List.mem_of_getElem? (i := 156) (by decide +kernel), List.mem_of_getElem? (i := 507) (by decide +kernel), List.mem_of_getElem? (i := 508) (by decide +kernel)⟩
theorem lw_p3 : lw_okq (⟨"SpokenMenus$Walk", "come", "(II)V"⟩, 10) := ⟨⟨by decide +kernel, by decide +kernel⟩, List.mem_of_getElem? (i := 156) (by decide +kernel), List.mem_of_getElem? (i := 515) (by decide +kernel), List.mem_of_getElem? (i := 516) (by decide +kernel)⟩
theorem lw_p4 : lw_okq (⟨"SpokenMenus$Walk", "pass", "(LSpokenMenus$Place;LSpokenMenus$Ways;LSpokenMenus$Caller;)I"⟩, 10) := ⟨⟨by decide +kernel, by decide +kernel⟩, List.mem_of_getElem? (i := 156) (by decide +kernel), List.mem_of_getElem? (i := 519) (by decide +kernel), List.mem_of_getElem? (i := 520) (by decide +kernel)⟩
theorem lw_p5 : lw_okq (⟨"SpokenMenus$Walk", "passMenu", "(LSpokenMenus$Place;LSpokenMenus$Ways;LSpokenMenus$Caller;)I"⟩, 10) := ⟨⟨by decide +kernel, by decide +kernel⟩, List.mem_of_getElem? (i := 156) (by decide +kernel), List.mem_of_getElem? (i := 523) (by decide +kernel), List.mem_of_getElem? (i := 524) (by decide +kernel)⟩
theorem lw_p6 : lw_okq (⟨"SpokenMenus$Walk", "spend", "(ILSpokenMenus$Caller;)V"⟩, 10) := ⟨⟨by decide +kernel, by decide +kernel⟩, List.mem_of_getElem? (i := 156) (by decide +kernel), List.mem_of_getElem? (i := 540) (by decide +kernel), List.mem_of_getElem? (i := 541) (by decide +kernel)⟩
theorem lw_p7 : lw_okq (⟨"SpokenMenus$Walk", "press", "(ILSpokenMenus$Caller;)V"⟩, 10) := ⟨⟨by decide +kernel, by decide +kernel⟩, List.mem_of_getElem? (i := 156) (by decide +kernel), List.mem_of_getElem? (i := 545) (by decide +kernel), List.mem_of_getElem? (i := 546) (by decide +kernel)⟩
theorem lw_p8 : lw_okq (⟨"SpokenMenus$Walk", "finish", "(I)V"⟩, 10) := ⟨⟨by decide +kernel, by decide +kernel⟩, List.mem_of_getElem? (i := 156) (by decide +kernel), List.mem_of_getElem? (i := 550) (by decide +kernel), List.mem_of_getElem? (i := 551) (by decide +kernel)⟩
theorem lw_p9 : lw_okq (⟨"SpokenMenus$Traps", "spread", "(LSpokenMenus$Place;II)Z"⟩, 2) := ⟨⟨by decide +kernel, by decide +kernel⟩, List.mem_of_getElem? (i := 56) (by decide +kernel), List.mem_of_getElem? (i := 588) (by decide +kernel), List.mem_of_getElem? (i := 589) (by decide +kernel)⟩
theorem lw_p10 : lw_okq (⟨"SpokenMenus$Traps", "isTrap", "(I)Z"⟩, 2) := ⟨⟨by decide +kernel, by decide +kernel⟩, List.mem_of_getElem? (i := 56) (by decide +kernel), List.mem_of_getElem? (i := 605) (by decide +kernel), List.mem_of_getElem? (i := 606) (by decide +kernel)⟩
theorem lw_p11 : lw_okq (⟨"SpokenMenus", "countListeners", "(ILSpokenMenus$Place;)V"⟩, 8) := ⟨⟨by decide +kernel, by decide +kernel⟩, List.mem_of_getElem? (i := 17) (by decide +kernel), List.mem_of_getElem? (i := 637) (by decide +kernel), List.mem_of_getElem? (i := 638) (by decide +kernel)⟩
theorem lw_p12 : lw_okq (⟨"SpokenMenus$Ordering", "goesAhead", "(LSpokenMenus$Place;II)Z"⟩, 3) := ⟨⟨by decide +kernel, by decide +kernel⟩, List.mem_of_getElem? (i := 91) (by decide +kernel), List.mem_of_getElem? (i := 664) (by decide +kernel), List.mem_of_getElem? (i := 665) (by decide +kernel)⟩
theorem lw_p13 : lw_okq (⟨"SpokenMenus$Planner", "planMenu", "(I)V"⟩, 10) := ⟨⟨by decide +kernel, by decide +kernel⟩, List.mem_of_getElem? (i := 110) (by decide +kernel), List.mem_of_getElem? (i := 696) (by decide +kernel), List.mem_of_getElem? (i := 697) (by decide +kernel)⟩
theorem lw_p14 : lw_okq (⟨"SpokenMenus$Planner", "costOfLine", "(II)I"⟩, 10) := ⟨⟨by decide +kernel, by decide +kernel⟩, List.mem_of_getElem? (i := 110) (by decide +kernel), List.mem_of_getElem? (i := 703) (by decide +kernel), List.mem_of_getElem? (i := 704) (by decide +kernel)⟩
theorem lw_p15 : lw_okq (⟨"SpokenMenus$Planner", "planRest", "(II)V"⟩, 10) := ⟨⟨by decide +kernel, by decide +kernel⟩, List.mem_of_getElem? (i := 110) (by decide +kernel), List.mem_of_getElem? (i := 707) (by decide +kernel), List.mem_of_getElem? (i := 708) (by decide +kernel)⟩
def lw_privs_1 : List (MethodName × Nat) := [(⟨"SpokenMenus$Ways", "leastAt", "(LSpokenMenus$Place;LSpokenMenus$Caller;)I"⟩, 1), (⟨"SpokenMenus$Ways", "leastAtMenu", "(LSpokenMenus$Place;)I"⟩, 1), (⟨"SpokenMenus$Walk", "begin", "()V"⟩, 10), (⟨"SpokenMenus$Walk", "come", "(II)V"⟩, 10), (⟨"SpokenMenus$Walk", "pass", "(LSpokenMenus$Place;LSpokenMenus$Ways;LSpokenMenus$Caller;)I"⟩, 10), (⟨"SpokenMenus$Walk", "passMenu", "(LSpokenMenus$Place;LSpokenMenus$Ways;LSpokenMenus$Caller;)I"⟩, 10), (⟨"SpokenMenus$Walk", "spend", "(ILSpokenMenus$Caller;)V"⟩, 10), (⟨"SpokenMenus$Walk", "press", "(ILSpokenMenus$Caller;)V"⟩, 10), (⟨"SpokenMenus$Walk", "finish", "(I)V"⟩, 10), (⟨"SpokenMenus$Traps", "spread", "(LSpokenMenus$Place;II)Z"⟩, 2), (⟨"SpokenMenus$Traps", "isTrap", "(I)Z"⟩, 2), (⟨"SpokenMenus", "countListeners", "(ILSpokenMenus$Place;)V"⟩, 8), (⟨"SpokenMenus$Ordering", "goesAhead", "(LSpokenMenus$Place;II)Z"⟩, 3), (⟨"SpokenMenus$Planner", "planMenu", "(I)V"⟩, 10), (⟨"SpokenMenus$Planner", "costOfLine", "(II)I"⟩, 10), (⟨"SpokenMenus$Planner", "planRest", "(II)V"⟩, 10)]
theorem lw_r1 : ∀ q ∈ lw_privs_1, lw_okq q := List.forall_mem_cons.mpr ⟨lw_p0, List.forall_mem_cons.mpr ⟨lw_p1, List.forall_mem_cons.mpr ⟨lw_p2, List.forall_mem_cons.mpr ⟨lw_p3, List.forall_mem_cons.mpr ⟨lw_p4, List.forall_mem_cons.mpr ⟨lw_p5, List.forall_mem_cons.mpr ⟨lw_p6, List.forall_mem_cons.mpr ⟨lw_p7, List.forall_mem_cons.mpr ⟨lw_p8, List.forall_mem_cons.mpr ⟨lw_p9, List.forall_mem_cons.mpr ⟨lw_p10, List.forall_mem_cons.mpr ⟨lw_p11, List.forall_mem_cons.mpr ⟨lw_p12, List.forall_mem_cons.mpr ⟨lw_p13, List.forall_mem_cons.mpr ⟨lw_p14, List.forall_mem_cons.mpr ⟨lw_p15, fun _ h => absurd h List.not_mem_nil⟩⟩⟩⟩⟩⟩⟩⟩⟩⟩⟩⟩⟩⟩⟩⟩
theorem lw_p16 : lw_okq (⟨"SpokenMenusModel", "newPlace", "(IIII)I"⟩, 57) := ⟨⟨by decide +kernel, by decide +kernel⟩, List.mem_of_getElem? (i := 727) (by decide +kernel), List.mem_of_getElem? (i := 915) (by decide +kernel), List.mem_of_getElem? (i := 916) (by decide +kernel)⟩
theorem lw_p17 : lw_okq (⟨"SpokenMenusModel", "isMenu", "(I)Z"⟩, 57) := ⟨⟨by decide +kernel, by decide +kernel⟩, List.mem_of_getElem? (i := 727) (by decide +kernel), List.mem_of_getElem? (i := 923) (by decide +kernel), List.mem_of_getElem? (i := 924) (by decide +kernel)⟩
theorem lw_p18 : lw_okq (⟨"SpokenMenusModel", "isPlace", "(I)Z"⟩, 57) := ⟨⟨by decide +kernel, by decide +kernel⟩, List.mem_of_getElem? (i := 727) (by decide +kernel), List.mem_of_getElem? (i := 927) (by decide +kernel), List.mem_of_getElem? (i := 928) (by decide +kernel)⟩
theorem lw_p19 : lw_okq (⟨"SpokenMenusModel", "isLine", "(II)Z"⟩, 57) := ⟨⟨by decide +kernel, by decide +kernel⟩, List.mem_of_getElem? (i := 727) (by decide +kernel), List.mem_of_getElem? (i := 955) (by decide +kernel), List.mem_of_getElem? (i := 956) (by decide +kernel)⟩
theorem lw_p20 : lw_okq (⟨"SpokenMenusModel", "swapAt", "(II)V"⟩, 57) := ⟨⟨by decide +kernel, by decide +kernel⟩, List.mem_of_getElem? (i := 727) (by decide +kernel), List.mem_of_getElem? (i := 963) (by decide +kernel), List.mem_of_getElem? (i := 964) (by decide +kernel)⟩
theorem lw_p21 : lw_okq (⟨"SpokenMenusModel", "goThrough", "(IIIIZ)I"⟩, 57) := ⟨⟨by decide +kernel, by decide +kernel⟩, List.mem_of_getElem? (i := 727) (by decide +kernel), List.mem_of_getElem? (i := 986) (by decide +kernel), List.mem_of_getElem? (i := 987) (by decide +kernel)⟩
theorem lw_p22 : lw_okq (⟨"SpokenMenusModel", "layLeast", "()V"⟩, 57) := ⟨⟨by decide +kernel, by decide +kernel⟩, List.mem_of_getElem? (i := 727) (by decide +kernel), List.mem_of_getElem? (i := 990) (by decide +kernel), List.mem_of_getElem? (i := 991) (by decide +kernel)⟩
theorem lw_p23 : lw_okq (⟨"SpokenMenusModel", "leastAt", "(I)I"⟩, 57) := ⟨⟨by decide +kernel, by decide +kernel⟩, List.mem_of_getElem? (i := 727) (by decide +kernel), List.mem_of_getElem? (i := 995) (by decide +kernel), List.mem_of_getElem? (i := 996) (by decide +kernel)⟩
theorem lw_p24 : lw_okq (⟨"SpokenMenusModel", "isServed", "(I)Z"⟩, 57) := ⟨⟨by decide +kernel, by decide +kernel⟩, List.mem_of_getElem? (i := 727) (by decide +kernel), List.mem_of_getElem? (i := 999) (by decide +kernel), List.mem_of_getElem? (i := 1000) (by decide +kernel)⟩
theorem lw_p25 : lw_okq (⟨"SpokenMenusModel", "through", "(II)I"⟩, 57) := ⟨⟨by decide +kernel, by decide +kernel⟩, List.mem_of_getElem? (i := 727) (by decide +kernel), List.mem_of_getElem? (i := 1003) (by decide +kernel), List.mem_of_getElem? (i := 1004) (by decide +kernel)⟩
theorem lw_p26 : lw_okq (⟨"SpokenMenusModel", "leastOf", "(I)I"⟩, 57) := ⟨⟨by decide +kernel, by decide +kernel⟩, List.mem_of_getElem? (i := 727) (by decide +kernel), List.mem_of_getElem? (i := 1007) (by decide +kernel), List.mem_of_getElem? (i := 1008) (by decide +kernel)⟩
theorem lw_p27 : lw_okq (⟨"SpokenMenusModel", "isOpen", "(I)Z"⟩, 57) := ⟨⟨by decide +kernel, by decide +kernel⟩, List.mem_of_getElem? (i := 727) (by decide +kernel), List.mem_of_getElem? (i := 1011) (by decide +kernel), List.mem_of_getElem? (i := 1012) (by decide +kernel)⟩
theorem lw_p28 : lw_okq (⟨"SpokenMenusModel", "isRight", "(I)Z"⟩, 57) := ⟨⟨by decide +kernel, by decide +kernel⟩, List.mem_of_getElem? (i := 727) (by decide +kernel), List.mem_of_getElem? (i := 1015) (by decide +kernel), List.mem_of_getElem? (i := 1016) (by decide +kernel)⟩
theorem lw_p29 : lw_okq (⟨"SpokenMenusModel", "heard", "(I)I"⟩, 57) := ⟨⟨by decide +kernel, by decide +kernel⟩, List.mem_of_getElem? (i := 727) (by decide +kernel), List.mem_of_getElem? (i := 1019) (by decide +kernel), List.mem_of_getElem? (i := 1020) (by decide +kernel)⟩
theorem lw_p30 : lw_okq (⟨"SpokenMenusModel", "comes", "(I)V"⟩, 57) := ⟨⟨by decide +kernel, by decide +kernel⟩, List.mem_of_getElem? (i := 727) (by decide +kernel), List.mem_of_getElem? (i := 1023) (by decide +kernel), List.mem_of_getElem? (i := 1024) (by decide +kernel)⟩
theorem lw_p31 : lw_okq (⟨"SpokenMenusModel", "step", "(Z)I"⟩, 57) := ⟨⟨by decide +kernel, by decide +kernel⟩, List.mem_of_getElem? (i := 727) (by decide +kernel), List.mem_of_getElem? (i := 1027) (by decide +kernel), List.mem_of_getElem? (i := 1028) (by decide +kernel)⟩
def lw_privs_2 : List (MethodName × Nat) := [(⟨"SpokenMenusModel", "newPlace", "(IIII)I"⟩, 57), (⟨"SpokenMenusModel", "isMenu", "(I)Z"⟩, 57), (⟨"SpokenMenusModel", "isPlace", "(I)Z"⟩, 57), (⟨"SpokenMenusModel", "isLine", "(II)Z"⟩, 57), (⟨"SpokenMenusModel", "swapAt", "(II)V"⟩, 57), (⟨"SpokenMenusModel", "goThrough", "(IIIIZ)I"⟩, 57), (⟨"SpokenMenusModel", "layLeast", "()V"⟩, 57), (⟨"SpokenMenusModel", "leastAt", "(I)I"⟩, 57), (⟨"SpokenMenusModel", "isServed", "(I)Z"⟩, 57), (⟨"SpokenMenusModel", "through", "(II)I"⟩, 57), (⟨"SpokenMenusModel", "leastOf", "(I)I"⟩, 57), (⟨"SpokenMenusModel", "isOpen", "(I)Z"⟩, 57), (⟨"SpokenMenusModel", "isRight", "(I)Z"⟩, 57), (⟨"SpokenMenusModel", "heard", "(I)I"⟩, 57), (⟨"SpokenMenusModel", "comes", "(I)V"⟩, 57), (⟨"SpokenMenusModel", "step", "(Z)I"⟩, 57)]
theorem lw_r2 : ∀ q ∈ lw_privs_2, lw_okq q := List.forall_mem_cons.mpr ⟨lw_p16, List.forall_mem_cons.mpr ⟨lw_p17, List.forall_mem_cons.mpr ⟨lw_p18, List.forall_mem_cons.mpr ⟨lw_p19, List.forall_mem_cons.mpr ⟨lw_p20, List.forall_mem_cons.mpr ⟨lw_p21, List.forall_mem_cons.mpr ⟨lw_p22, List.forall_mem_cons.mpr ⟨lw_p23, List.forall_mem_cons.mpr ⟨lw_p24, List.forall_mem_cons.mpr ⟨lw_p25, List.forall_mem_cons.mpr ⟨lw_p26, List.forall_mem_cons.mpr ⟨lw_p27, List.forall_mem_cons.mpr ⟨lw_p28, List.forall_mem_cons.mpr ⟨lw_p29, List.forall_mem_cons.mpr ⟨lw_p30, List.forall_mem_cons.mpr ⟨lw_p31, fun _ h => absurd h List.not_mem_nil⟩⟩⟩⟩⟩⟩⟩⟩⟩⟩⟩⟩⟩⟩⟩⟩
theorem lw_p32 : lw_okq (⟨"SpokenMenusModel", "goOn", "(IZ)I"⟩, 57) := ⟨⟨by decide +kernel, by decide +kernel⟩, List.mem_of_getElem? (i := 727) (by decide +kernel), List.mem_of_getElem? (i := 1031) (by decide +kernel), List.mem_of_getElem? (i := 1032) (by decide +kernel)⟩
theorem lw_p33 : lw_okq (⟨"SpokenMenusModel", "press", "(I)V"⟩, 57) := ⟨⟨by decide +kernel, by decide +kernel⟩, List.mem_of_getElem? (i := 727) (by decide +kernel), List.mem_of_getElem? (i := 1035) (by decide +kernel), List.mem_of_getElem? (i := 1036) (by decide +kernel)⟩
theorem lw_p34 : lw_okq (⟨"SpokenMenusModel", "layTraps", "()V"⟩, 57) := ⟨⟨by decide +kernel, by decide +kernel⟩, List.mem_of_getElem? (i := 727) (by decide +kernel), List.mem_of_getElem? (i := 1059) (by decide +kernel), List.mem_of_getElem? (i := 1060) (by decide +kernel)⟩
theorem lw_p35 : lw_okq (⟨"SpokenMenusModel", "leads", "(I[Z)Z"⟩, 57) := ⟨⟨by decide +kernel, by decide +kernel⟩, List.mem_of_getElem? (i := 727) (by decide +kernel), List.mem_of_getElem? (i := 1063) (by decide +kernel), List.mem_of_getElem? (i := 1064) (by decide +kernel)⟩
theorem lw_p36 : lw_okq (⟨"SpokenMenusModel", "callOf", "(I)I"⟩, 57) := ⟨⟨by decide +kernel, by decide +kernel⟩, List.mem_of_getElem? (i := 727) (by decide +kernel), List.mem_of_getElem? (i := 1079) (by decide +kernel), List.mem_of_getElem? (i := 1080) (by decide +kernel)⟩
theorem lw_p37 : lw_okq (⟨"SpokenMenusModel", "layOrder", "(I)V"⟩, 57) := ⟨⟨by decide +kernel, by decide +kernel⟩, List.mem_of_getElem? (i := 727) (by decide +kernel), List.mem_of_getElem? (i := 1091) (by decide +kernel), List.mem_of_getElem? (i := 1092) (by decide +kernel)⟩
theorem lw_p38 : lw_okq (⟨"SpokenMenusModel", "leastLine", "(IIZ)I"⟩, 57) := ⟨⟨by decide +kernel, by decide +kernel⟩, List.mem_of_getElem? (i := 727) (by decide +kernel), List.mem_of_getElem? (i := 1107) (by decide +kernel), List.mem_of_getElem? (i := 1108) (by decide +kernel)⟩
theorem lw_p39 : lw_okq (⟨"SpokenMenusModel", "lineCost", "(III)I"⟩, 57) := ⟨⟨by decide +kernel, by decide +kernel⟩, List.mem_of_getElem? (i := 727) (by decide +kernel), List.mem_of_getElem? (i := 1114) (by decide +kernel), List.mem_of_getElem? (i := 1115) (by decide +kernel)⟩
theorem lw_p40 : lw_okq (⟨"SpokenMenusModel", "ticksOf", "(I)I"⟩, 57) := ⟨⟨by decide +kernel, by decide +kernel⟩, List.mem_of_getElem? (i := 727) (by decide +kernel), List.mem_of_getElem? (i := 1118) (by decide +kernel), List.mem_of_getElem? (i := 1119) (by decide +kernel)⟩
def lw_privs_3 : List (MethodName × Nat) := [(⟨"SpokenMenusModel", "goOn", "(IZ)I"⟩, 57), (⟨"SpokenMenusModel", "press", "(I)V"⟩, 57), (⟨"SpokenMenusModel", "layTraps", "()V"⟩, 57), (⟨"SpokenMenusModel", "leads", "(I[Z)Z"⟩, 57), (⟨"SpokenMenusModel", "callOf", "(I)I"⟩, 57), (⟨"SpokenMenusModel", "layOrder", "(I)V"⟩, 57), (⟨"SpokenMenusModel", "leastLine", "(IIZ)I"⟩, 57), (⟨"SpokenMenusModel", "lineCost", "(III)I"⟩, 57), (⟨"SpokenMenusModel", "ticksOf", "(I)I"⟩, 57)]
theorem lw_r3 : ∀ q ∈ lw_privs_3, lw_okq q := List.forall_mem_cons.mpr ⟨lw_p32, List.forall_mem_cons.mpr ⟨lw_p33, List.forall_mem_cons.mpr ⟨lw_p34, List.forall_mem_cons.mpr ⟨lw_p35, List.forall_mem_cons.mpr ⟨lw_p36, List.forall_mem_cons.mpr ⟨lw_p37, List.forall_mem_cons.mpr ⟨lw_p38, List.forall_mem_cons.mpr ⟨lw_p39, List.forall_mem_cons.mpr ⟨lw_p40, fun _ h => absurd h List.not_mem_nil⟩⟩⟩⟩⟩⟩⟩⟩⟩
def lw_privs : List (MethodName × Nat) := lw_privs_1 ++ (lw_privs_2 ++ (lw_privs_3))
def lw_tbl : List Cond := k2_sels lw_privs ++ tables_1
theorem lw_privs_ok : ∀ q ∈ lw_privs, lw_okq q := by
  show ∀ q ∈ lw_privs_1 ++ (lw_privs_2 ++ (lw_privs_3)), lw_okq q
  exact List.forall_mem_append.mpr ⟨lw_r1, List.forall_mem_append.mpr ⟨lw_r2, lw_r3⟩⟩
abbrev RX0 : String := "SpokenMenus$Caller"
def TX0 : u_T := fun k => match k with
  | 0 => ("SpokenMenus$Caller", "wish", "I", true)
  | 1 => ("SpokenMenus$Caller", "number", "I", true)
  | 2 => ("SpokenMenus$Caller", "patience", "I", true)
  | 3 => ("SpokenMenus$Caller", "hour", "I", true)
  | _ => ("SpokenMenus$Caller", "knows", "Z", true)
def tyX0 : Nat → FieldType := fun k => match k with
  | 0 => .int
  | 1 => .int
  | 2 => .int
  | 3 => .int
  | _ => .boolean
theorem nmX0 : ∀ a, a < 5 → ∀ b, b < 5 → a ≠ b → (TX0 a).2.1 ≠ (TX0 b).2.1 := by decide +kernel
theorem tyX0_ok : ∀ k, k < 5 → parseFieldDescriptor (TX0 k).2.2.1 = some (tyX0 k) := by decide +kernel
theorem inX0 : ∀ w ∈ u_ws RX0 TX0 5, w ∈ lw_tbl := by decide +kernel
abbrev RX1 : String := "SpokenMenus$Groups"
def TX1 : u_T := fun k => match k with
  | 0 => ("SpokenMenus$Groups", "callers", "[LSpokenMenus$Caller;", true)
  | 1 => ("SpokenMenus$Groups", "many", "[I", true)
  | _ => ("SpokenMenus$Groups", "size", "I", false)
def tyX1 : Nat → FieldType := fun k => match k with
  | 0 => .array (.object "SpokenMenus$Caller")
  | 1 => .array .int
  | _ => .int
theorem nmX1 : ∀ a, a < 3 → ∀ b, b < 3 → a ≠ b → (TX1 a).2.1 ≠ (TX1 b).2.1 := by decide +kernel
theorem tyX1_ok : ∀ k, k < 3 → parseFieldDescriptor (TX1 k).2.2.1 = some (tyX1 k) := by decide +kernel
theorem inX1 : ∀ w ∈ u_ws RX1 TX1 3, w ∈ lw_tbl := by decide +kernel
abbrev RX2 : String := "SpokenMenus$House"
def TX2 : u_T := fun k => match k with
  | 0 => ("SpokenMenus$House", "places", "[LSpokenMenus$Place;", true)
  | _ => ("SpokenMenus$House", "size", "I", false)
def tyX2 : Nat → FieldType := fun k => match k with
  | 0 => .array (.object "SpokenMenus$Place")
  | _ => .int
theorem nmX2 : ∀ a, a < 2 → ∀ b, b < 2 → a ≠ b → (TX2 a).2.1 ≠ (TX2 b).2.1 := by decide +kernel
theorem tyX2_ok : ∀ k, k < 2 → parseFieldDescriptor (TX2 k).2.2.1 = some (tyX2 k) := by decide +kernel
theorem inX2 : ∀ w ∈ u_ws RX2 TX2 2, w ∈ lw_tbl := by decide +kernel
abbrev RX3 : String := "SpokenMenus$Line"
def TX3 : u_T := fun k => match k with
  | 0 => ("SpokenMenus$Line", "ticks", "I", false)
  | 1 => ("SpokenMenus$Line", "key", "I", true)
  | 2 => ("SpokenMenus$Line", "wishes", "I", false)
  | _ => ("SpokenMenus$Line", "next", "I", false)
def tyX3 : Nat → FieldType := fun k => match k with
  | 0 => .int
  | 1 => .int
  | 2 => .int
  | _ => .int
theorem nmX3 : ∀ a, a < 4 → ∀ b, b < 4 → a ≠ b → (TX3 a).2.1 ≠ (TX3 b).2.1 := by decide +kernel
theorem tyX3_ok : ∀ k, k < 4 → parseFieldDescriptor (TX3 k).2.2.1 = some (tyX3 k) := by decide +kernel
theorem inX3 : ∀ w ∈ u_ws RX3 TX3 4, w ∈ lw_tbl := by decide +kernel
abbrev RX4 : String := "SpokenMenus$Ordering"
def TX4 : u_T := fun k => match k with
  | 0 => ("SpokenMenus$Ordering", "callers", "[I", true)
  | 1 => ("SpokenMenus$Ordering", "sorted", "[I", true)
  | _ => ("SpokenMenus$Ordering", "stood", "[LSpokenMenus$Line;", true)
def tyX4 : Nat → FieldType := fun k => match k with
  | 0 => .array .int
  | 1 => .array .int
  | _ => .array (.object "SpokenMenus$Line")
theorem nmX4 : ∀ a, a < 3 → ∀ b, b < 3 → a ≠ b → (TX4 a).2.1 ≠ (TX4 b).2.1 := by decide +kernel
theorem tyX4_ok : ∀ k, k < 3 → parseFieldDescriptor (TX4 k).2.2.1 = some (tyX4 k) := by decide +kernel
theorem inX4 : ∀ w ∈ u_ws RX4 TX4 3, w ∈ lw_tbl := by decide +kernel
abbrev RX5 : String := "SpokenMenus$Place"
def TX5 : u_T := fun k => match k with
  | 0 => ("SpokenMenus$Place", "kind", "I", true)
  | 1 => ("SpokenMenus$Place", "ticks", "I", true)
  | 2 => ("SpokenMenus$Place", "served", "I", true)
  | 3 => ("SpokenMenus$Place", "next", "I", true)
  | 4 => ("SpokenMenus$Place", "other", "I", true)
  | 5 => ("SpokenMenus$Place", "lines", "[LSpokenMenus$Line;", true)
  | 6 => ("SpokenMenus$Place", "size", "I", false)
  | 7 => ("SpokenMenus$Place", "repeats", "I", false)
  | 8 => ("SpokenMenus$Place", "figures", "I", false)
  | 9 => ("SpokenMenus$Place", "from", "I", false)
  | _ => ("SpokenMenus$Place", "to", "I", false)
def tyX5 : Nat → FieldType := fun k => match k with
  | 0 => .int
  | 1 => .int
  | 2 => .int
  | 3 => .int
  | 4 => .int
  | 5 => .array (.object "SpokenMenus$Line")
  | 6 => .int
  | 7 => .int
  | 8 => .int
  | 9 => .int
  | _ => .int
theorem nmX5 : ∀ a, a < 11 → ∀ b, b < 11 → a ≠ b → (TX5 a).2.1 ≠ (TX5 b).2.1 := by decide +kernel
theorem tyX5_ok : ∀ k, k < 11 → parseFieldDescriptor (TX5 k).2.2.1 = some (tyX5 k) := by decide +kernel
theorem inX5 : ∀ w ∈ u_ws RX5 TX5 11, w ∈ lw_tbl := by decide +kernel
abbrev RX6 : String := "SpokenMenus$Planner"
def TX6 : u_T := fun k => match k with
  | 0 => ("SpokenMenus$Planner", "wishTicks", "[I", true)
  | 1 => ("SpokenMenus$Planner", "wishCallers", "[I", true)
  | 2 => ("SpokenMenus$Planner", "all", "I", false)
  | 3 => ("SpokenMenus$Planner", "breadth", "I", false)
  | 4 => ("SpokenMenus$Planner", "groupTicks", "I", false)
  | 5 => ("SpokenMenus$Planner", "callersOf", "[I", true)
  | 6 => ("SpokenMenus$Planner", "menuCost", "[I", true)
  | 7 => ("SpokenMenus$Planner", "menuFirst", "[I", true)
  | 8 => ("SpokenMenus$Planner", "restCost", "[[I", true)
  | _ => ("SpokenMenus$Planner", "restFirst", "[[I", true)
def tyX6 : Nat → FieldType := fun k => match k with
  | 0 => .array .int
  | 1 => .array .int
  | 2 => .int
  | 3 => .int
  | 4 => .int
  | 5 => .array .int
  | 6 => .array .int
  | 7 => .array .int
  | 8 => .array (.array .int)
  | _ => .array (.array .int)
theorem nmX6 : ∀ a, a < 10 → ∀ b, b < 10 → a ≠ b → (TX6 a).2.1 ≠ (TX6 b).2.1 := by decide +kernel
theorem tyX6_ok : ∀ k, k < 10 → parseFieldDescriptor (TX6 k).2.2.1 = some (tyX6 k) := by decide +kernel
theorem inX6 : ∀ w ∈ u_ws RX6 TX6 10, w ∈ lw_tbl := by decide +kernel
abbrev RX7 : String := "SpokenMenus$Traps"
def TX7 : u_T := fun k => match k with
  | 0 => ("SpokenMenus$Traps", "reached", "[Z", true)
  | _ => ("SpokenMenus$Traps", "leadsToDesk", "[Z", true)
def tyX7 : Nat → FieldType := fun k => match k with
  | 0 => .array .boolean
  | _ => .array .boolean
theorem nmX7 : ∀ a, a < 2 → ∀ b, b < 2 → a ≠ b → (TX7 a).2.1 ≠ (TX7 b).2.1 := by decide +kernel
theorem tyX7_ok : ∀ k, k < 2 → parseFieldDescriptor (TX7 k).2.2.1 = some (tyX7 k) := by decide +kernel
theorem inX7 : ∀ w ∈ u_ws RX7 TX7 2, w ∈ lw_tbl := by decide +kernel
abbrev RX8 : String := "SpokenMenus$Walk"
def TX8 : u_T := fun k => match k with
  | 0 => ("SpokenMenus$Walk", "was", "Z", false)
  | 1 => ("SpokenMenus$Walk", "end", "I", false)
  | 2 => ("SpokenMenus$Walk", "ticks", "I", false)
  | 3 => ("SpokenMenus$Walk", "last", "I", false)
  | 4 => ("SpokenMenus$Walk", "comings", "I", false)
  | 5 => ("SpokenMenus$Walk", "presses", "I", false)
  | 6 => ("SpokenMenus$Walk", "cameTo", "[I", true)
  | 7 => ("SpokenMenus$Walk", "keys", "[I", true)
  | 8 => ("SpokenMenus$Walk", "seen", "[Z", true)
  | _ => ("SpokenMenus$Walk", "clocksOnEnd", "I", false)
def tyX8 : Nat → FieldType := fun k => match k with
  | 0 => .boolean
  | 1 => .int
  | 2 => .int
  | 3 => .int
  | 4 => .int
  | 5 => .int
  | 6 => .array .int
  | 7 => .array .int
  | 8 => .array .boolean
  | _ => .int
theorem nmX8 : ∀ a, a < 10 → ∀ b, b < 10 → a ≠ b → (TX8 a).2.1 ≠ (TX8 b).2.1 := by decide +kernel
theorem tyX8_ok : ∀ k, k < 10 → parseFieldDescriptor (TX8 k).2.2.1 = some (tyX8 k) := by decide +kernel
theorem inX8 : ∀ w ∈ u_ws RX8 TX8 10, w ∈ lw_tbl := by decide +kernel
abbrev RX9 : String := "SpokenMenus$Ways"
def TX9 : u_T := fun k => match k with
  | _ => ("SpokenMenus$Ways", "ticks", "[I", true)
def tyX9 : Nat → FieldType := fun k => match k with
  | _ => .array .int
theorem nmX9 : ∀ a, a < 1 → ∀ b, b < 1 → a ≠ b → (TX9 a).2.1 ≠ (TX9 b).2.1 := by decide +kernel
theorem tyX9_ok : ∀ k, k < 1 → parseFieldDescriptor (TX9 k).2.2.1 = some (tyX9 k) := by decide +kernel
theorem inX9 : ∀ w ∈ u_ws RX9 TX9 1, w ∈ lw_tbl := by decide +kernel
abbrev RX10 : String := "SpokenMenus"
def TX10 : u_T := fun k => match k with
  | 0 => ("SpokenMenus", "house", "LSpokenMenus$House;", true)
  | 1 => ("SpokenMenus", "ways", "LSpokenMenus$Ways;", true)
  | 2 => ("SpokenMenus", "traps", "LSpokenMenus$Traps;", true)
  | 3 => ("SpokenMenus", "groups", "LSpokenMenus$Groups;", true)
  | 4 => ("SpokenMenus", "ordering", "LSpokenMenus$Ordering;", true)
  | 5 => ("SpokenMenus", "planner", "LSpokenMenus$Planner;", true)
  | 6 => ("SpokenMenus", "latest", "LSpokenMenus$Walk;", true)
  | _ => ("SpokenMenus", "trial", "LSpokenMenus$Walk;", true)
def tyX10 : Nat → FieldType := fun k => match k with
  | 0 => .object "SpokenMenus$House"
  | 1 => .object "SpokenMenus$Ways"
  | 2 => .object "SpokenMenus$Traps"
  | 3 => .object "SpokenMenus$Groups"
  | 4 => .object "SpokenMenus$Ordering"
  | 5 => .object "SpokenMenus$Planner"
  | 6 => .object "SpokenMenus$Walk"
  | _ => .object "SpokenMenus$Walk"
theorem nmX10 : ∀ a, a < 8 → ∀ b, b < 8 → a ≠ b → (TX10 a).2.1 ≠ (TX10 b).2.1 := by decide +kernel
theorem tyX10_ok : ∀ k, k < 8 → parseFieldDescriptor (TX10 k).2.2.1 = some (tyX10 k) := by decide +kernel
theorem inX10 : ∀ w ∈ u_ws RX10 TX10 8, w ∈ lw_tbl := by decide +kernel
abbrev RX11 : String := "SpokenMenusModel"
def TX11 : u_T := fun k => match k with
  | 0 => ("SpokenMenusModel", "places", "I", false)
  | 1 => ("SpokenMenusModel", "kind", "[I", true)
  | 2 => ("SpokenMenusModel", "ticks", "[I", true)
  | 3 => ("SpokenMenusModel", "times", "[I", true)
  | 4 => ("SpokenMenusModel", "first", "[I", true)
  | 5 => ("SpokenMenusModel", "second", "[I", true)
  | 6 => ("SpokenMenusModel", "serves", "[I", true)
  | 7 => ("SpokenMenusModel", "from", "[I", true)
  | 8 => ("SpokenMenusModel", "to", "[I", true)
  | 9 => ("SpokenMenusModel", "figures", "[I", true)
  | 10 => ("SpokenMenusModel", "lines", "[I", true)
  | 11 => ("SpokenMenusModel", "lineTicks", "[I", true)
  | 12 => ("SpokenMenusModel", "lineKey", "[I", true)
  | 13 => ("SpokenMenusModel", "lineWishes", "[I", true)
  | 14 => ("SpokenMenusModel", "lineNext", "[I", true)
  | 15 => ("SpokenMenusModel", "groups", "I", false)
  | 16 => ("SpokenMenusModel", "groupMany", "[I", true)
  | 17 => ("SpokenMenusModel", "groupWish", "[I", true)
  | 18 => ("SpokenMenusModel", "groupNumber", "[I", true)
  | 19 => ("SpokenMenusModel", "groupPatience", "[I", true)
  | 20 => ("SpokenMenusModel", "groupHour", "[I", true)
  | 21 => ("SpokenMenusModel", "groupKnows", "[I", true)
  | 22 => ("SpokenMenusModel", "wasRung", "Z", false)
  | 23 => ("SpokenMenusModel", "toldTicks", "I", false)
  | 24 => ("SpokenMenusModel", "toldPlace", "I", false)
  | 25 => ("SpokenMenusModel", "toldCame", "I", false)
  | 26 => ("SpokenMenusModel", "toldKeys", "I", false)
  | 27 => ("SpokenMenusModel", "toldPlaces", "[I", true)
  | 28 => ("SpokenMenusModel", "toldPressed", "[I", true)
  | 29 => ("SpokenMenusModel", "wishTicks", "[I", true)
  | 30 => ("SpokenMenusModel", "wishCallers", "[I", true)
  | 31 => ("SpokenMenusModel", "planned", "I", false)
  | 32 => ("SpokenMenusModel", "wishNow", "I", false)
  | 33 => ("SpokenMenusModel", "number", "I", false)
  | 34 => ("SpokenMenusModel", "patience", "I", false)
  | 35 => ("SpokenMenusModel", "hour", "I", false)
  | 36 => ("SpokenMenusModel", "least", "[I", true)
  | 37 => ("SpokenMenusModel", "gone", "I", false)
  | 38 => ("SpokenMenusModel", "at", "I", false)
  | 39 => ("SpokenMenusModel", "came", "I", false)
  | 40 => ("SpokenMenusModel", "keys", "I", false)
  | 41 => ("SpokenMenusModel", "clocks", "I", false)
  | 42 => ("SpokenMenusModel", "met", "[Z", true)
  | 43 => ("SpokenMenusModel", "placesKept", "[I", true)
  | 44 => ("SpokenMenusModel", "keysKept", "[I", true)
  | 45 => ("SpokenMenusModel", "isReached", "[Z", true)
  | 46 => ("SpokenMenusModel", "isWell", "[Z", true)
  | 47 => ("SpokenMenusModel", "one", "[Z", true)
  | 48 => ("SpokenMenusModel", "lineCallers", "[I", true)
  | 49 => ("SpokenMenusModel", "order", "[I", true)
  | 50 => ("SpokenMenusModel", "lay", "[I", true)
  | 51 => ("SpokenMenusModel", "cost", "[I", true)
  | 52 => ("SpokenMenusModel", "menuCost", "[I", true)
  | 53 => ("SpokenMenusModel", "groupTicks", "I", false)
  | 54 => ("SpokenMenusModel", "breadth", "I", false)
  | 55 => ("SpokenMenusModel", "callersOf", "[I", true)
  | _ => ("SpokenMenusModel", "planTicks", "[I", true)
def tyX11 : Nat → FieldType := fun k => match k with
  | 0 => .int
  | 1 => .array .int
  | 2 => .array .int
  | 3 => .array .int
  | 4 => .array .int
  | 5 => .array .int
  | 6 => .array .int
  | 7 => .array .int
  | 8 => .array .int
  | 9 => .array .int
  | 10 => .array .int
  | 11 => .array .int
  | 12 => .array .int
  | 13 => .array .int
  | 14 => .array .int
  | 15 => .int
  | 16 => .array .int
  | 17 => .array .int
  | 18 => .array .int
  | 19 => .array .int
  | 20 => .array .int
  | 21 => .array .int
  | 22 => .boolean
  | 23 => .int
  | 24 => .int
  | 25 => .int
  | 26 => .int
  | 27 => .array .int
  | 28 => .array .int
  | 29 => .array .int
  | 30 => .array .int
  | 31 => .int
  | 32 => .int
  | 33 => .int
  | 34 => .int
  | 35 => .int
  | 36 => .array .int
  | 37 => .int
  | 38 => .int
  | 39 => .int
  | 40 => .int
  | 41 => .int
  | 42 => .array .boolean
  | 43 => .array .int
  | 44 => .array .int
  | 45 => .array .boolean
  | 46 => .array .boolean
  | 47 => .array .boolean
  | 48 => .array .int
  | 49 => .array .int
  | 50 => .array .int
  | 51 => .array .int
  | 52 => .array .int
  | 53 => .int
  | 54 => .int
  | 55 => .array .int
  | _ => .array .int
theorem nmX11 : ∀ a, a < 57 → ∀ b, b < 57 → a ≠ b → (TX11 a).2.1 ≠ (TX11 b).2.1 := by decide +kernel
theorem tyX11_ok : ∀ k, k < 57 → parseFieldDescriptor (TX11 k).2.2.1 = some (tyX11 k) := by decide +kernel
theorem inX11 : ∀ w ∈ u_ws RX11 TX11 57, w ∈ lw_tbl := by decide +kernel
abbrev vwCl : List vw_C := [(RX0, TX0, 5), (RX1, TX1, 3), (RX2, TX2, 2), (RX3, TX3, 4), (RX4, TX4, 3), (RX5, TX5, 11), (RX6, TX6, 10), (RX7, TX7, 2), (RX8, TX8, 10), (RX9, TX9, 1), (RX10, TX10, 8), (RX11, TX11, 57)]
def tbG : List Cond := lw_tbl.filter goodWord
theorem tb_bad : (lw_tbl.filter (fun w => !goodWord w)).length = 53 := by decide +kernel
theorem tb_in {w : Cond} (h : w ∈ lw_tbl) (hg : goodWord w = true) : w ∈ tbG := List.mem_filter.mpr ⟨h, hg⟩
theorem tb_of {w : Cond} (h : w ∈ tbG) : w ∈ lw_tbl := (List.mem_filter.mp h).1
theorem tb_good {w : Cond} (h : w ∈ tbG) : goodWord w = true := (List.mem_filter.mp h).2
