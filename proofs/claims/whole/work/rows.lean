section
/-- a private method of a class that the tables say can be made, by its rows of tables_1 -/
def lw_okq (q : MethodName × Nat) : Prop := (q.1.cls ≠ "java/lang/invoke/MethodHandle" ∧ q.1.cls ≠ "java/lang/invoke/VarHandle") ∧ Cond.instantiable q.1.cls q.2 ∈ tables_1 ∧ Cond.privateMethod q.1 ∈ tables_1 ∧ Cond.instanceMethod q.1 ∈ tables_1
theorem lw_p0 : lw_okq (⟨"SpokenMenus$Ways", "leastAt", "(LSpokenMenus$Place;LSpokenMenus$Caller;)I"⟩, 1) := ⟨⟨by decide +kernel, by decide +kernel⟩, List.mem_of_getElem? (i := 45) (by decide +kernel), List.mem_of_getElem? (i := 458) (by decide +kernel), List.mem_of_getElem? (i := 459) (by decide +kernel)⟩
theorem lw_p1 : lw_okq (⟨"SpokenMenus$Ways", "leastAtMenu", "(LSpokenMenus$Place;)I"⟩, 1) := ⟨⟨by decide +kernel, by decide +kernel⟩, List.mem_of_getElem? (i := 45) (by decide +kernel), List.mem_of_getElem? (i := 462) (by decide +kernel), List.mem_of_getElem? (i := 463) (by decide +kernel)⟩
theorem lw_p2 : lw_okq (⟨"SpokenMenus$Walk", "begin", "()V"⟩, 10) := ⟨⟨by decide +kernel, by decide +kernel⟩, List.mem_of_getElem? (i := 156) (by decide +kernel), List.mem_of_getElem? (i := 507) (by decide +kernel), List.mem_of_getElem? (i := 508) (by decide +kernel)⟩
theorem lw_p3 : lw_okq (⟨"SpokenMenus$Walk", "come", "(II)V"⟩, 10) := ⟨⟨by decide +kernel, by decide +kernel⟩, List.mem_of_getElem? (i := 156) (by decide +kernel), List.mem_of_getElem? (i := 515) (by decide +kernel), List.mem_of_getElem? (i := 516) (by decide +kernel)⟩
theorem lw_p4 : lw_okq (⟨"SpokenMenus$Walk", "pass", "(LSpokenMenus$Place;LSpokenMenus$Ways;LSpokenMenus$Caller;)I"⟩, 10) := ⟨⟨by decide +kernel, by decide +kernel⟩, List.mem_of_getElem? (i := 156) (by decide +kernel), List.mem_of_getElem? (i := 519) (by decide +kernel), List.mem_of_getElem? (i := 520) (by decide +kernel)⟩
theorem lw_p5 : lw_okq (⟨"SpokenMenus$Walk", "passMenu", "(LSpokenMenus$Place;LSpokenMenus$Ways;LSpokenMenus$Caller;)I"⟩, 10) := ⟨⟨by decide +kernel, by decide +kernel⟩, List.mem_of_getElem? (i := 156) (by decide +kernel), List.mem_of_getElem? (i := 523) (by decide +kernel), List.mem_of_getElem? (i := 524) (by decide +kernel)⟩
theorem lw_p6 : lw_okq (⟨"SpokenMenus$Walk", "spend", "(ILSpokenMenus$Caller;)V"⟩, 10) := ⟨⟨by decide +kernel, by decide +kernel⟩, List.mem_of_getElem? (i := 156) (by decide +kernel), List.mem_of_getElem? (i := 540) (by decide +kernel), List.mem_of_getElem? (i := 541) (by decide +kernel)⟩
theorem lw_p7 : lw_okq (⟨"SpokenMenus$Walk", "press", "(ILSpokenMenus$Caller;)V"⟩, 10) := ⟨⟨by decide +kernel, by decide +kernel⟩, List.mem_of_getElem? (i := 156) (by decide +kernel), List.mem_of_getElem? (i := 545) (by decide +kernel), List.mem_of_getElem? (i := 546) (by decide +kernel)⟩
theorem lw_p8 : lw_okq (⟨"SpokenMenus$Walk", "finish", "(I)V"⟩, 10) := ⟨⟨by decide +kernel, by decide +kernel⟩, List.mem_of_getElem? (i := 156) (by decide +kernel), List.mem_of_getElem? (i := 550) (by decide +kernel), List.mem_of_getElem? (i := 551) (by decide +kernel)⟩
theorem lw_p9 : lw_okq (⟨"SpokenMenus$Traps", "spread", "(LSpokenMenus$Place;II)Z"⟩, 2) := ⟨⟨by decide +kernel, by decide +kernel⟩, List.mem_of_getElem? (i := 56) (by decide +kernel), List.mem_of_getElem? (i := 588) (by decide +kernel), List.mem_of_getElem? (i := 589) (by decide +kernel)⟩
theorem lw_p10 : lw_okq (⟨"SpokenMenus$Traps", "isTrap", "(I)Z"⟩, 2) := ⟨⟨by decide +kernel, by decide +kernel⟩, List.mem_of_getElem? (i := 56) (by decide +kernel), List.mem_of_getElem? (i := 605) (by decide +kernel), List.mem_of_getElem? (i := 606) (by decide +kernel)⟩
theorem lw_p11 : lw_okq (⟨"SpokenMenus", "countListeners", "(ILSpokenMenus$Place;)V"⟩, 8) := ⟨⟨by decide +kernel, by decide +kernel⟩, List.mem_of_getElem? (i := 17) (by decide +kernel), List.mem_of_getElem? (i := 637) (by decide +kernel), List.mem_of_getElem? (i := 638) (by decide +kernel)⟩
theorem lw_p12 : lw_okq (⟨"SpokenMenus$Ordering", "goesAhead", "(LSpokenMenus$Place;II)Z"⟩, 3) := ⟨⟨by decide +kernel, by decide +kernel⟩, List.mem_of_getElem? (i := 91) (by decide +kernel), List.mem_of_getElem? (i := 664) (by decide +kernel), List.mem_of_getElem? (i := 665) (by decide +kernel)⟩
theorem lw_p13 : lw_okq (⟨"SpokenMenus$Planner", "planMenu", "(I)V"⟩, 10) := ⟨⟨by decide +kernel, by decide +kernel⟩, List.mem_of_getElem? (i := 110) (by decide +kernel), List.mem_of_getElem? (i := 696) (by decide +kernel), List.mem_of_getElem? (i := 697) (by decide +kernel)⟩
theorem lw_p14 : lw_okq (⟨"SpokenMenus$Planner", "costOfLine", "(II)I"⟩, 10) := ⟨⟨by decide +kernel, by decide +kernel⟩, List.mem_of_getElem? (i := 110) (by decide +kernel), List.mem_of_getElem? (i := 703) (by decide +kernel), List.mem_of_getElem? (i := 704) (by decide +kernel)⟩
theorem lw_p15 : lw_okq (⟨"SpokenMenus$Planner", "planRest", "(II)V"⟩, 10) := ⟨⟨by decide +kernel, by decide +kernel⟩, List.mem_of_getElem? (i := 110) (by decide +kernel), List.mem_of_getElem? (i := 707) (by decide +kernel), List.mem_of_getElem? (i := 708) (by decide +kernel)⟩
def lw_privs_1 : List (MethodName × Nat) := [(⟨"SpokenMenus$Ways", "leastAt", "(LSpokenMenus$Place;LSpokenMenus$Caller;)I"⟩, 1), (⟨"SpokenMenus$Ways", "leastAtMenu", "(LSpokenMenus$Place;)I"⟩, 1), (⟨"SpokenMenus$Walk", "begin", "()V"⟩, 10), (⟨"SpokenMenus$Walk", "come", "(II)V"⟩, 10), (⟨"SpokenMenus$Walk", "pass", "(LSpokenMenus$Place;LSpokenMenus$Ways;LSpokenMenus$Caller;)I"⟩, 10), (⟨"SpokenMenus$Walk", "passMenu", "(LSpokenMenus$Place;LSpokenMenus$Ways;LSpokenMenus$Caller;)I"⟩, 10), (⟨"SpokenMenus$Walk", "spend", "(ILSpokenMenus$Caller;)V"⟩, 10), (⟨"SpokenMenus$Walk", "press", "(ILSpokenMenus$Caller;)V"⟩, 10), (⟨"SpokenMenus$Walk", "finish", "(I)V"⟩, 10), (⟨"SpokenMenus$Traps", "spread", "(LSpokenMenus$Place;II)Z"⟩, 2), (⟨"SpokenMenus$Traps", "isTrap", "(I)Z"⟩, 2), (⟨"SpokenMenus", "countListeners", "(ILSpokenMenus$Place;)V"⟩, 8), (⟨"SpokenMenus$Ordering", "goesAhead", "(LSpokenMenus$Place;II)Z"⟩, 3), (⟨"SpokenMenus$Planner", "planMenu", "(I)V"⟩, 10), (⟨"SpokenMenus$Planner", "costOfLine", "(II)I"⟩, 10), (⟨"SpokenMenus$Planner", "planRest", "(II)V"⟩, 10)]
theorem lw_r1 : ∀ q ∈ lw_privs_1, lw_okq q := List.forall_mem_cons.mpr ⟨lw_p0, List.forall_mem_cons.mpr ⟨lw_p1, List.forall_mem_cons.mpr ⟨lw_p2, List.forall_mem_cons.mpr ⟨lw_p3, List.forall_mem_cons.mpr ⟨lw_p4, List.forall_mem_cons.mpr ⟨lw_p5, List.forall_mem_cons.mpr ⟨lw_p6, List.forall_mem_cons.mpr ⟨lw_p7, List.forall_mem_cons.mpr ⟨lw_p8, List.forall_mem_cons.mpr ⟨lw_p9, List.forall_mem_cons.mpr ⟨lw_p10, List.forall_mem_cons.mpr ⟨lw_p11, List.forall_mem_cons.mpr ⟨lw_p12, List.forall_mem_cons.mpr ⟨lw_p13, List.forall_mem_cons.mpr ⟨lw_p14, List.forall_mem_cons.mpr ⟨lw_p15, fun _ h => absurd h List.not_mem_nil⟩⟩⟩⟩⟩⟩⟩⟩⟩⟩⟩⟩⟩⟩⟩⟩
theorem lw_p16 : lw_okq (⟨"SpokenMenusModel", "newPlace", "(IIII)I"⟩, 57) := ⟨⟨by decide +kernel, by decide +kernel⟩, List.mem_of_getElem? (i := 727) (by decide +kernel), List.mem_of_getElem? (i := 915) (by decide +kernel), List.mem_of_getElem? (i := 916) (by decide +kernel)⟩
theorem lw_p17 : lw_okq (⟨"SpokenMenusModel", "isMenu", "(I)Z"⟩, 57) := ⟨⟨by decide +kernel, by decide +kernel⟩, List.mem_of_getElem? (i := 727) (by decide +kernel), List.mem_of_getElem? (i := 923) (by decide +kernel), List.mem_of_getElem? (i := 924) (by decide +kernel)⟩
theorem lw_p18 : lw_okq (⟨"SpokenMenusModel", "isPlace", "(I)Z"⟩, 57) := ⟨⟨by decide +kernel, by decide +kernel⟩, List.mem_of_getElem? (i := 727) (by decide +kernel), List.mem_of_getElem? (i := 927) (by decide +kernel), List.mem_of_getElem? (i := 928) (by decide +kernel)⟩
theorem lw_p19 : lw_okq (⟨"SpokenMenusModel", "isLine", "(II)Z"⟩, 57) := ⟨⟨by decide +kernel, by decide +kernel⟩, List.mem_of_getElem? (i := 727) (by decide +kernel), List.mem_of_getElem? (i := 955) (by decide +kernel), List.mem_of_getElem? (i := 956) (by decide +kernel)⟩
theorem lw_p20 : lw_okq (⟨"SpokenMenusModel", "swapAt", "(II)V"⟩, 57) := ⟨⟨by decide +kernel, by decide +kernel⟩, List.mem_of_getElem? (i := 727) (by decide +kernel), List.mem_of_getElem? (i := 963) (by decide +kernel), List.mem_of_getElem? (i := 964) (by decide +kernel)⟩
theorem lw_p21 : lw_okq (⟨"SpokenMenusModel", "goThrough", "(IIIIZ)I"⟩, 57) := ⟨⟨by decide +kernel, by decide +kernel⟩, List.mem_of_getElem? (i := 727) (by decide +kernel), List.mem_of_getElem? (i := 986) (by decide +kernel), List.mem_of_getElem? (i := 987) (by decide +kernel)⟩
theorem lw_p22 : lw_okq (⟨"SpokenMenusModel", "layLeast", "()V"⟩, 57) := ⟨⟨by decide +kernel, by decide +kernel⟩, List.mem_of_getElem? (i := 727) (by decide +kernel), List.mem_of_getElem? (i := 990) (by decide +kernel), List.mem_of_getElem? (i := 991) (by decide +kernel)⟩
theorem lw_p23 : lw_okq (⟨"SpokenMenusModel", "leastAt", "(I)I"⟩, 57) := ⟨⟨by decide +kernel, by decide +kernel⟩, List.mem_of_getElem? (i := 727) (by decide +kernel), List.mem_of_getElem? (i := 995) (by decide +kernel), List.mem_of_getElem? (i := 996) (by decide +kernel)⟩
theorem lw_p24 : lw_okq (⟨"SpokenMenusModel", "isServed", "(I)Z"⟩, 57) := ⟨⟨by decide +kernel, by decide +kernel⟩, List.mem_of_getElem? (i := 727) (by decide +kernel), List.mem_of_getElem? (i := 999) (by decide +kernel), List.mem_of_getElem? (i := 1000) (by decide +kernel)⟩
theorem lw_p25 : lw_okq (⟨"SpokenMenusModel", "through", "(II)I"⟩, 57) := ⟨⟨by decide +kernel, by decide +kernel⟩, List.mem_of_getElem? (i := 727) (by decide +kernel), List.mem_of_getElem? (i := 1003) (by decide +kernel), List.mem_of_getElem? (i := 1004) (by decide +kernel)⟩
theorem lw_p26 : lw_okq (⟨"SpokenMenusModel", "leastOf", "(I)I"⟩, 57) := ⟨⟨by decide +kernel, by decide +kernel⟩, List.mem_of_getElem? (i := 727) (by decide +kernel), List.mem_of_getElem? (i := 1007) (by decide +kernel), List.mem_of_getElem? (i := 1008) (by decide +kernel)⟩
theorem lw_p27 : lw_okq (⟨"SpokenMenusModel", "isOpen", "(I)Z"⟩, 57) := ⟨⟨by decide +kernel, by decide +kernel⟩, List.mem_of_getElem? (i := 727) (by decide +kernel), List.mem_of_getElem? (i := 1011) (by decide +kernel), List.mem_of_getElem? (i := 1012) (by decide +kernel)⟩
theorem lw_p28 : lw_okq (⟨"SpokenMenusModel", "isRight", "(I)Z"⟩, 57) := ⟨⟨by decide +kernel, by decide +kernel⟩, List.mem_of_getElem? (i := 727) (by decide +kernel), List.mem_of_getElem? (i := 1015) (by decide +kernel), List.mem_of_getElem? (i := 1016) (by decide +kernel)⟩
theorem lw_p29 : lw_okq (⟨"SpokenMenusModel", "heard", "(I)I"⟩, 57) := ⟨⟨by decide +kernel, by decide +kernel⟩, List.mem_of_getElem? (i := 727) (by decide +kernel), List.mem_of_getElem? (i := 1019) (by decide +kernel), List.mem_of_getElem? (i := 1020) (by decide +kernel)⟩
theorem lw_p30 : lw_okq (⟨"SpokenMenusModel", "comes", "(I)V"⟩, 57) := ⟨⟨by decide +kernel, by decide +kernel⟩, List.mem_of_getElem? (i := 727) (by decide +kernel), List.mem_of_getElem? (i := 1023) (by decide +kernel), List.mem_of_getElem? (i := 1024) (by decide +kernel)⟩
theorem lw_p31 : lw_okq (⟨"SpokenMenusModel", "step", "(Z)I"⟩, 57) := ⟨⟨by decide +kernel, by decide +kernel⟩, List.mem_of_getElem? (i := 727) (by decide +kernel), List.mem_of_getElem? (i := 1027) (by decide +kernel), List.mem_of_getElem? (i := 1028) (by decide +kernel)⟩
def lw_privs_2 : List (MethodName × Nat) := [(⟨"SpokenMenusModel", "newPlace", "(IIII)I"⟩, 57), (⟨"SpokenMenusModel", "isMenu", "(I)Z"⟩, 57), (⟨"SpokenMenusModel", "isPlace", "(I)Z"⟩, 57), (⟨"SpokenMenusModel", "isLine", "(II)Z"⟩, 57), (⟨"SpokenMenusModel", "swapAt", "(II)V"⟩, 57), (⟨"SpokenMenusModel", "goThrough", "(IIIIZ)I"⟩, 57), (⟨"SpokenMenusModel", "layLeast", "()V"⟩, 57), (⟨"SpokenMenusModel", "leastAt", "(I)I"⟩, 57), (⟨"SpokenMenusModel", "isServed", "(I)Z"⟩, 57), (⟨"SpokenMenusModel", "through", "(II)I"⟩, 57), (⟨"SpokenMenusModel", "leastOf", "(I)I"⟩, 57), (⟨"SpokenMenusModel", "isOpen", "(I)Z"⟩, 57), (⟨"SpokenMenusModel", "isRight", "(I)Z"⟩, 57), (⟨"SpokenMenusModel", "heard", "(I)I"⟩, 57), (⟨"SpokenMenusModel", "comes", "(I)V"⟩, 57), (⟨"SpokenMenusModel", "step", "(Z)I"⟩, 57)]
theorem lw_r2 : ∀ q ∈ lw_privs_2, lw_okq q := List.forall_mem_cons.mpr ⟨lw_p16, List.forall_mem_cons.mpr ⟨lw_p17, List.forall_mem_cons.mpr ⟨lw_p18, List.forall_mem_cons.mpr ⟨lw_p19, List.forall_mem_cons.mpr ⟨lw_p20, List.forall_mem_cons.mpr ⟨lw_p21, List.forall_mem_cons.mpr ⟨lw_p22, List.forall_mem_cons.mpr ⟨lw_p23, List.forall_mem_cons.mpr ⟨lw_p24, List.forall_mem_cons.mpr ⟨lw_p25, List.forall_mem_cons.mpr ⟨lw_p26, List.forall_mem_cons.mpr ⟨lw_p27, List.forall_mem_cons.mpr ⟨lw_p28, List.forall_mem_cons.mpr ⟨lw_p29, List.forall_mem_cons.mpr ⟨lw_p30, List.forall_mem_cons.mpr ⟨lw_p31, fun _ h => absurd h List.not_mem_nil⟩⟩⟩⟩⟩⟩⟩⟩⟩⟩⟩⟩⟩⟩⟩⟩
theorem lw_p32 : lw_okq (⟨"SpokenMenusModel", "goOn", "(IZ)I"⟩, 57) := ⟨⟨by decide +kernel, by decide +kernel⟩, List.mem_of_getElem? (i := 727) (by decide +kernel), List.mem_of_getElem? (i := 1031) (by decide +kernel), List.mem_of_getElem? (i := 1032) (by decide +kernel)⟩
theorem lw_p33 : lw_okq (⟨"SpokenMenusModel", "press", "(I)V"⟩, 57) := ⟨⟨by decide +kernel, by decide +kernel⟩, List.mem_of_getElem? (i := 727) (by decide +kernel), List.mem_of_getElem? (i := 1035) (by decide +kernel), List.mem_of_getElem? (i := 1036) (by decide +kernel)⟩
theorem lw_p34 : lw_okq (⟨"SpokenMenusModel", "layTraps", "()V"⟩, 57) := ⟨⟨by decide +kernel, by decide +kernel⟩, List.mem_of_getElem? (i := 727) (by decide +kernel), List.mem_of_getElem? (i := 1059) (by decide +kernel), List.mem_of_getElem? (i := 1060) (by decide +kernel)⟩
theorem lw_p35 : lw_okq (⟨"SpokenMenusModel", "leads", "(I[Z)Z"⟩, 57) := ⟨⟨by decide +kernel, by decide +kernel⟩, List.mem_of_getElem? (i := 727) (by decide +kernel), List.mem_of_getElem? (i := 1063) (by decide +kernel), List.mem_of_getElem? (i := 1064) (by decide +kernel)⟩
theorem lw_p36 : lw_okq (⟨"SpokenMenusModel", "callOf", "(I)I"⟩, 57) := ⟨⟨by decide +kernel, by decide +kernel⟩, List.mem_of_getElem? (i := 727) (by decide +kernel), List.mem_of_getElem? (i := 1079) (by decide +kernel), List.mem_of_getElem? (i := 1080) (by decide +kernel)⟩
theorem lw_p37 : lw_okq (⟨"SpokenMenusModel", "layOrder", "(I)V"⟩, 57) := ⟨⟨by decide +kernel, by decide +kernel⟩, List.mem_of_getElem? (i := 727) (by decide +kernel), List.mem_of_getElem? (i := 1091) (by decide +kernel), List.mem_of_getElem? (i := 1092) (by decide +kernel)⟩
theorem lw_p38 : lw_okq (⟨"SpokenMenusModel", "leastLine", "(IIZ)I"⟩, 57) := ⟨⟨by decide +kernel, by decide +kernel⟩, List.mem_of_getElem? (i := 727) (by decide +kernel), List.mem_of_getElem? (i := 1107) (by decide +kernel), List.mem_of_getElem? (i := 1108) (by decide +kernel)⟩
theorem lw_p39 : lw_okq (⟨"SpokenMenusModel", "lineCost", "(III)I"⟩, 57) := ⟨⟨by decide +kernel, by decide +kernel⟩, List.mem_of_getElem? (i := 727) (by decide +kernel), List.mem_of_getElem? (i := 1114) (by decide +kernel), List.mem_of_getElem? (i := 1115) (by decide +kernel)⟩
theorem lw_p40 : lw_okq (⟨"SpokenMenusModel", "ticksOf", "(I)I"⟩, 57) := ⟨⟨by decide +kernel, by decide +kernel⟩, List.mem_of_getElem? (i := 727) (by decide +kernel), List.mem_of_getElem? (i := 1118) (by decide +kernel), List.mem_of_getElem? (i := 1119) (by decide +kernel)⟩
def lw_privs_3 : List (MethodName × Nat) := [(⟨"SpokenMenusModel", "goOn", "(IZ)I"⟩, 57), (⟨"SpokenMenusModel", "press", "(I)V"⟩, 57), (⟨"SpokenMenusModel", "layTraps", "()V"⟩, 57), (⟨"SpokenMenusModel", "leads", "(I[Z)Z"⟩, 57), (⟨"SpokenMenusModel", "callOf", "(I)I"⟩, 57), (⟨"SpokenMenusModel", "layOrder", "(I)V"⟩, 57), (⟨"SpokenMenusModel", "leastLine", "(IIZ)I"⟩, 57), (⟨"SpokenMenusModel", "lineCost", "(III)I"⟩, 57), (⟨"SpokenMenusModel", "ticksOf", "(I)I"⟩, 57)]
theorem lw_r3 : ∀ q ∈ lw_privs_3, lw_okq q := List.forall_mem_cons.mpr ⟨lw_p32, List.forall_mem_cons.mpr ⟨lw_p33, List.forall_mem_cons.mpr ⟨lw_p34, List.forall_mem_cons.mpr ⟨lw_p35, List.forall_mem_cons.mpr ⟨lw_p36, List.forall_mem_cons.mpr ⟨lw_p37, List.forall_mem_cons.mpr ⟨lw_p38, List.forall_mem_cons.mpr ⟨lw_p39, List.forall_mem_cons.mpr ⟨lw_p40, fun _ h => absurd h List.not_mem_nil⟩⟩⟩⟩⟩⟩⟩⟩⟩
def lw_privs : List (MethodName × Nat) := lw_privs_1 ++ (lw_privs_2 ++ (lw_privs_3))
def lw_tbl : List Cond := k2_sels lw_privs ++ tables_1
theorem lw_privs_ok : ∀ q ∈ lw_privs, lw_okq q := by
  show ∀ q ∈ lw_privs_1 ++ (lw_privs_2 ++ (lw_privs_3)), lw_okq q
  exact List.forall_mem_append.mpr ⟨lw_r1, List.forall_mem_append.mpr ⟨lw_r2, lw_r3⟩⟩
abbrev RX0 : String := "SpokenMenus$Caller"
def TX0 : u_T := fun k => match k with
  | 0 => ("SpokenMenus$Caller", "wish", "I", true)
  | 1 => ("SpokenMenus$Caller", "number", "I", true)
  | 2 => ("SpokenMenus$Caller", "patience", "I", true)
  | 3 => ("SpokenMenus$Caller", "hour", "I", true)
  | _ => ("SpokenMenus$Caller", "knows", "Z", true)
def tyX0 : Nat → FieldType := fun k => match k with
  | 0 => .int
  | 1 => .int
  | 2 => .int
  | 3 => .int
  | _ => .boolean
theorem nmX0 : ∀ a, a < 5 → ∀ b, b < 5 → a ≠ b → (TX0 a).2.1 ≠ (TX0 b).2.1 := by decide +kernel
theorem tyX0_ok : ∀ k, k < 5 → parseFieldDescriptor (TX0 k).2.2.1 = some (tyX0 k) := by decide +kernel
theorem inX0 : ∀ w ∈ u_ws RX0 TX0 5, w ∈ lw_tbl := by decide +kernel
abbrev RX1 : String := "SpokenMenus$Groups"
def TX1 : u_T := fun k => match k with
  | 0 => ("SpokenMenus$Groups", "callers", "[LSpokenMenus$Caller;", true)
  | 1 => ("SpokenMenus$Groups", "many", "[I", true)
  | _ => ("SpokenMenus$Groups", "size", "I", false)
def tyX1 : Nat → FieldType := fun k => match k with
  | 0 => .array (.object "SpokenMenus$Caller")
  | 1 => .array .int
  | _ => .int
theorem nmX1 : ∀ a, a < 3 → ∀ b, b < 3 → a ≠ b → (TX1 a).2.1 ≠ (TX1 b).2.1 := by decide +kernel
theorem tyX1_ok : ∀ k, k < 3 → parseFieldDescriptor (TX1 k).2.2.1 = some (tyX1 k) := by decide +kernel
theorem inX1 : ∀ w ∈ u_ws RX1 TX1 3, w ∈ lw_tbl := by decide +kernel
abbrev RX2 : String := "SpokenMenus$House"
def TX2 : u_T := fun k => match k with
  | 0 => ("SpokenMenus$House", "places", "[LSpokenMenus$Place;", true)
  | _ => ("SpokenMenus$House", "size", "I", false)
def tyX2 : Nat → FieldType := fun k => match k with
  | 0 => .array (.object "SpokenMenus$Place")
  | _ => .int
theorem nmX2 : ∀ a, a < 2 → ∀ b, b < 2 → a ≠ b → (TX2 a).2.1 ≠ (TX2 b).2.1 := by decide +kernel
theorem tyX2_ok : ∀ k, k < 2 → parseFieldDescriptor (TX2 k).2.2.1 = some (tyX2 k) := by decide +kernel
theorem inX2 : ∀ w ∈ u_ws RX2 TX2 2, w ∈ lw_tbl := by decide +kernel
abbrev RX3 : String := "SpokenMenus$Line"
def TX3 : u_T := fun k => match k with
  | 0 => ("SpokenMenus$Line", "ticks", "I", false)
  | 1 => ("SpokenMenus$Line", "key", "I", true)
  | 2 => ("SpokenMenus$Line", "wishes", "I", false)
  | _ => ("SpokenMenus$Line", "next", "I", false)
def tyX3 : Nat → FieldType := fun k => match k with
  | 0 => .int
  | 1 => .int
  | 2 => .int
  | _ => .int
theorem nmX3 : ∀ a, a < 4 → ∀ b, b < 4 → a ≠ b → (TX3 a).2.1 ≠ (TX3 b).2.1 := by decide +kernel
theorem tyX3_ok : ∀ k, k < 4 → parseFieldDescriptor (TX3 k).2.2.1 = some (tyX3 k) := by decide +kernel
theorem inX3 : ∀ w ∈ u_ws RX3 TX3 4, w ∈ lw_tbl := by decide +kernel
abbrev RX4 : String := "SpokenMenus$Ordering"
def TX4 : u_T := fun k => match k with
  | 0 => ("SpokenMenus$Ordering", "callers", "[I", true)
  | 1 => ("SpokenMenus$Ordering", "sorted", "[I", true)
  | _ => ("SpokenMenus$Ordering", "stood", "[LSpokenMenus$Line;", true)
def tyX4 : Nat → FieldType := fun k => match k with
  | 0 => .array .int
  | 1 => .array .int
  | _ => .array (.object "SpokenMenus$Line")
theorem nmX4 : ∀ a, a < 3 → ∀ b, b < 3 → a ≠ b → (TX4 a).2.1 ≠ (TX4 b).2.1 := by decide +kernel
theorem tyX4_ok : ∀ k, k < 3 → parseFieldDescriptor (TX4 k).2.2.1 = some (tyX4 k) := by decide +kernel
theorem inX4 : ∀ w ∈ u_ws RX4 TX4 3, w ∈ lw_tbl := by decide +kernel
abbrev RX5 : String := "SpokenMenus$Place"
def TX5 : u_T := fun k => match k with
  | 0 => ("SpokenMenus$Place", "kind", "I", true)
  | 1 => ("SpokenMenus$Place", "ticks", "I", true)
  | 2 => ("SpokenMenus$Place", "served", "I", true)
  | 3 => ("SpokenMenus$Place", "next", "I", true)
  | 4 => ("SpokenMenus$Place", "other", "I", true)
  | 5 => ("SpokenMenus$Place", "lines", "[LSpokenMenus$Line;", true)
  | 6 => ("SpokenMenus$Place", "size", "I", false)
  | 7 => ("SpokenMenus$Place", "repeats", "I", false)
  | 8 => ("SpokenMenus$Place", "figures", "I", false)
  | 9 => ("SpokenMenus$Place", "from", "I", false)
  | _ => ("SpokenMenus$Place", "to", "I", false)
def tyX5 : Nat → FieldType := fun k => match k with
  | 0 => .int
  | 1 => .int
  | 2 => .int
  | 3 => .int
  | 4 => .int
  | 5 => .array (.object "SpokenMenus$Line")
  | 6 => .int
  | 7 => .int
  | 8 => .int
  | 9 => .int
  | _ => .int
theorem nmX5 : ∀ a, a < 11 → ∀ b, b < 11 → a ≠ b → (TX5 a).2.1 ≠ (TX5 b).2.1 := by decide +kernel
theorem tyX5_ok : ∀ k, k < 11 → parseFieldDescriptor (TX5 k).2.2.1 = some (tyX5 k) := by decide +kernel
theorem inX5 : ∀ w ∈ u_ws RX5 TX5 11, w ∈ lw_tbl := by decide +kernel
abbrev RX6 : String := "SpokenMenus$Planner"
def TX6 : u_T := fun k => match k with
  | 0 => ("SpokenMenus$Planner", "wishTicks", "[I", true)
  | 1 => ("SpokenMenus$Planner", "wishCallers", "[I", true)
  | 2 => ("SpokenMenus$Planner", "all", "I", false)
  | 3 => ("SpokenMenus$Planner", "breadth", "I", false)
  | 4 => ("SpokenMenus$Planner", "groupTicks", "I", false)
  | 5 => ("SpokenMenus$Planner", "callersOf", "[I", true)
  | 6 => ("SpokenMenus$Planner", "menuCost", "[I", true)
  | 7 => ("SpokenMenus$Planner", "menuFirst", "[I", true)
  | 8 => ("SpokenMenus$Planner", "restCost", "[[I", true)
  | _ => ("SpokenMenus$Planner", "restFirst", "[[I", true)
def tyX6 : Nat → FieldType := fun k => match k with
  | 0 => .array .int
  | 1 => .array .int
  | 2 => .int
  | 3 => .int
  | 4 => .int
  | 5 => .array .int
  | 6 => .array .int
  | 7 => .array .int
  | 8 => .array (.array .int)
  | _ => .array (.array .int)
theorem nmX6 : ∀ a, a < 10 → ∀ b, b < 10 → a ≠ b → (TX6 a).2.1 ≠ (TX6 b).2.1 := by decide +kernel
theorem tyX6_ok : ∀ k, k < 10 → parseFieldDescriptor (TX6 k).2.2.1 = some (tyX6 k) := by decide +kernel
theorem inX6 : ∀ w ∈ u_ws RX6 TX6 10, w ∈ lw_tbl := by decide +kernel
abbrev RX7 : String := "SpokenMenus$Traps"
def TX7 : u_T := fun k => match k with
  | 0 => ("SpokenMenus$Traps", "reached", "[Z", true)
  | _ => ("SpokenMenus$Traps", "leadsToDesk", "[Z", true)
def tyX7 : Nat → FieldType := fun k => match k with
  | 0 => .array .boolean
  | _ => .array .boolean
theorem nmX7 : ∀ a, a < 2 → ∀ b, b < 2 → a ≠ b → (TX7 a).2.1 ≠ (TX7 b).2.1 := by decide +kernel
theorem tyX7_ok : ∀ k, k < 2 → parseFieldDescriptor (TX7 k).2.2.1 = some (tyX7 k) := by decide +kernel
theorem inX7 : ∀ w ∈ u_ws RX7 TX7 2, w ∈ lw_tbl := by decide +kernel
abbrev RX8 : String := "SpokenMenus$Walk"
def TX8 : u_T := fun k => match k with
  | 0 => ("SpokenMenus$Walk", "was", "Z", false)
  | 1 => ("SpokenMenus$Walk", "end", "I", false)
  | 2 => ("SpokenMenus$Walk", "ticks", "I", false)
  | 3 => ("SpokenMenus$Walk", "last", "I", false)
  | 4 => ("SpokenMenus$Walk", "comings", "I", false)
  | 5 => ("SpokenMenus$Walk", "presses", "I", false)
  | 6 => ("SpokenMenus$Walk", "cameTo", "[I", true)
  | 7 => ("SpokenMenus$Walk", "keys", "[I", true)
  | 8 => ("SpokenMenus$Walk", "seen", "[Z", true)
  | _ => ("SpokenMenus$Walk", "clocksOnEnd", "I", false)
def tyX8 : Nat → FieldType := fun k => match k with
  | 0 => .boolean
  | 1 => .int
  | 2 => .int
  | 3 => .int
  | 4 => .int
  | 5 => .int
  | 6 => .array .int
  | 7 => .array .int
  | 8 => .array .boolean
  | _ => .int
theorem nmX8 : ∀ a, a < 10 → ∀ b, b < 10 → a ≠ b → (TX8 a).2.1 ≠ (TX8 b).2.1 := by decide +kernel
theorem tyX8_ok : ∀ k, k < 10 → parseFieldDescriptor (TX8 k).2.2.1 = some (tyX8 k) := by decide +kernel
theorem inX8 : ∀ w ∈ u_ws RX8 TX8 10, w ∈ lw_tbl := by decide +kernel
abbrev RX9 : String := "SpokenMenus$Ways"
def TX9 : u_T := fun k => match k with
  | _ => ("SpokenMenus$Ways", "ticks", "[I", true)
def tyX9 : Nat → FieldType := fun k => match k with
  | _ => .array .int
theorem nmX9 : ∀ a, a < 1 → ∀ b, b < 1 → a ≠ b → (TX9 a).2.1 ≠ (TX9 b).2.1 := by decide +kernel
theorem tyX9_ok : ∀ k, k < 1 → parseFieldDescriptor (TX9 k).2.2.1 = some (tyX9 k) := by decide +kernel
theorem inX9 : ∀ w ∈ u_ws RX9 TX9 1, w ∈ lw_tbl := by decide +kernel
abbrev RX10 : String := "SpokenMenus"
def TX10 : u_T := fun k => match k with
  | 0 => ("SpokenMenus", "house", "LSpokenMenus$House;", true)
  | 1 => ("SpokenMenus", "ways", "LSpokenMenus$Ways;", true)
  | 2 => ("SpokenMenus", "traps", "LSpokenMenus$Traps;", true)
  | 3 => ("SpokenMenus", "groups", "LSpokenMenus$Groups;", true)
  | 4 => ("SpokenMenus", "ordering", "LSpokenMenus$Ordering;", true)
  | 5 => ("SpokenMenus", "planner", "LSpokenMenus$Planner;", true)
  | 6 => ("SpokenMenus", "latest", "LSpokenMenus$Walk;", true)
  | _ => ("SpokenMenus", "trial", "LSpokenMenus$Walk;", true)
def tyX10 : Nat → FieldType := fun k => match k with
  | 0 => .object "SpokenMenus$House"
  | 1 => .object "SpokenMenus$Ways"
  | 2 => .object "SpokenMenus$Traps"
  | 3 => .object "SpokenMenus$Groups"
  | 4 => .object "SpokenMenus$Ordering"
  | 5 => .object "SpokenMenus$Planner"
  | 6 => .object "SpokenMenus$Walk"
  | _ => .object "SpokenMenus$Walk"
theorem nmX10 : ∀ a, a < 8 → ∀ b, b < 8 → a ≠ b → (TX10 a).2.1 ≠ (TX10 b).2.1 := by decide +kernel
theorem tyX10_ok : ∀ k, k < 8 → parseFieldDescriptor (TX10 k).2.2.1 = some (tyX10 k) := by decide +kernel
theorem inX10 : ∀ w ∈ u_ws RX10 TX10 8, w ∈ lw_tbl := by decide +kernel
abbrev RX11 : String := "SpokenMenusModel"
def TX11 : u_T := fun k => match k with
  | 0 => ("SpokenMenusModel", "places", "I", false)
  | 1 => ("SpokenMenusModel", "kind", "[I", true)
  | 2 => ("SpokenMenusModel", "ticks", "[I", true)
  | 3 => ("SpokenMenusModel", "times", "[I", true)
  | 4 => ("SpokenMenusModel", "first", "[I", true)
  | 5 => ("SpokenMenusModel", "second", "[I", true)
  | 6 => ("SpokenMenusModel", "serves", "[I", true)
  | 7 => ("SpokenMenusModel", "from", "[I", true)
  | 8 => ("SpokenMenusModel", "to", "[I", true)
  | 9 => ("SpokenMenusModel", "figures", "[I", true)
  | 10 => ("SpokenMenusModel", "lines", "[I", true)
  | 11 => ("SpokenMenusModel", "lineTicks", "[I", true)
  | 12 => ("SpokenMenusModel", "lineKey", "[I", true)
  | 13 => ("SpokenMenusModel", "lineWishes", "[I", true)
  | 14 => ("SpokenMenusModel", "lineNext", "[I", true)
  | 15 => ("SpokenMenusModel", "groups", "I", false)
  | 16 => ("SpokenMenusModel", "groupMany", "[I", true)
  | 17 => ("SpokenMenusModel", "groupWish", "[I", true)
  | 18 => ("SpokenMenusModel", "groupNumber", "[I", true)
  | 19 => ("SpokenMenusModel", "groupPatience", "[I", true)
  | 20 => ("SpokenMenusModel", "groupHour", "[I", true)
  | 21 => ("SpokenMenusModel", "groupKnows", "[I", true)
  | 22 => ("SpokenMenusModel", "wasRung", "Z", false)
  | 23 => ("SpokenMenusModel", "toldTicks", "I", false)
  | 24 => ("SpokenMenusModel", "toldPlace", "I", false)
  | 25 => ("SpokenMenusModel", "toldCame", "I", false)
  | 26 => ("SpokenMenusModel", "toldKeys", "I", false)
  | 27 => ("SpokenMenusModel", "toldPlaces", "[I", true)
  | 28 => ("SpokenMenusModel", "toldPressed", "[I", true)
  | 29 => ("SpokenMenusModel", "wishTicks", "[I", true)
  | 30 => ("SpokenMenusModel", "wishCallers", "[I", true)
  | 31 => ("SpokenMenusModel", "planned", "I", false)
  | 32 => ("SpokenMenusModel", "wishNow", "I", false)
  | 33 => ("SpokenMenusModel", "number", "I", false)
  | 34 => ("SpokenMenusModel", "patience", "I", false)
  | 35 => ("SpokenMenusModel", "hour", "I", false)
  | 36 => ("SpokenMenusModel", "least", "[I", true)
  | 37 => ("SpokenMenusModel", "gone", "I", false)
  | 38 => ("SpokenMenusModel", "at", "I", false)
  | 39 => ("SpokenMenusModel", "came", "I", false)
  | 40 => ("SpokenMenusModel", "keys", "I", false)
  | 41 => ("SpokenMenusModel", "clocks", "I", false)
  | 42 => ("SpokenMenusModel", "met", "[Z", true)
  | 43 => ("SpokenMenusModel", "placesKept", "[I", true)
  | 44 => ("SpokenMenusModel", "keysKept", "[I", true)
  | 45 => ("SpokenMenusModel", "isReached", "[Z", true)
  | 46 => ("SpokenMenusModel", "isWell", "[Z", true)
  | 47 => ("SpokenMenusModel", "one", "[Z", true)
  | 48 => ("SpokenMenusModel", "lineCallers", "[I", true)
  | 49 => ("SpokenMenusModel", "order", "[I", true)
  | 50 => ("SpokenMenusModel", "lay", "[I", true)
  | 51 => ("SpokenMenusModel", "cost", "[I", true)
  | 52 => ("SpokenMenusModel", "menuCost", "[I", true)
  | 53 => ("SpokenMenusModel", "groupTicks", "I", false)
  | 54 => ("SpokenMenusModel", "breadth", "I", false)
  | 55 => ("SpokenMenusModel", "callersOf", "[I", true)
  | _ => ("SpokenMenusModel", "planTicks", "[I", true)
def tyX11 : Nat → FieldType := fun k => match k with
  | 0 => .int
  | 1 => .array .int
  | 2 => .array .int
  | 3 => .array .int
  | 4 => .array .int
  | 5 => .array .int
  | 6 => .array .int
  | 7 => .array .int
  | 8 => .array .int
  | 9 => .array .int
  | 10 => .array .int
  | 11 => .array .int
  | 12 => .array .int
  | 13 => .array .int
  | 14 => .array .int
  | 15 => .int
  | 16 => .array .int
  | 17 => .array .int
  | 18 => .array .int
  | 19 => .array .int
  | 20 => .array .int
  | 21 => .array .int
  | 22 => .boolean
  | 23 => .int
  | 24 => .int
  | 25 => .int
  | 26 => .int
  | 27 => .array .int
  | 28 => .array .int
  | 29 => .array .int
  | 30 => .array .int
  | 31 => .int
  | 32 => .int
  | 33 => .int
  | 34 => .int
  | 35 => .int
  | 36 => .array .int
  | 37 => .int
  | 38 => .int
  | 39 => .int
  | 40 => .int
  | 41 => .int
  | 42 => .array .boolean
  | 43 => .array .int
  | 44 => .array .int
  | 45 => .array .boolean
  | 46 => .array .boolean
  | 47 => .array .boolean
  | 48 => .array .int
  | 49 => .array .int
  | 50 => .array .int
  | 51 => .array .int
  | 52 => .array .int
  | 53 => .int
  | 54 => .int
  | 55 => .array .int
  | _ => .array .int
theorem nmX11 : ∀ a, a < 57 → ∀ b, b < 57 → a ≠ b → (TX11 a).2.1 ≠ (TX11 b).2.1 := by decide +kernel
theorem tyX11_ok : ∀ k, k < 57 → parseFieldDescriptor (TX11 k).2.2.1 = some (tyX11 k) := by decide +kernel
theorem inX11 : ∀ w ∈ u_ws RX11 TX11 57, w ∈ lw_tbl := by decide +kernel
abbrev vwCl : List vw_C := [(RX0, TX0, 5), (RX1, TX1, 3), (RX2, TX2, 2), (RX3, TX3, 4), (RX4, TX4, 3), (RX5, TX5, 11), (RX6, TX6, 10), (RX7, TX7, 2), (RX8, TX8, 10), (RX9, TX9, 1), (RX10, TX10, 8), (RX11, TX11, 57)]
def tbG : List Cond := lw_tbl.filter goodWord
theorem tb_bad : (lw_tbl.filter (fun w => !goodWord w)).length = 53 := by decide +kernel
theorem tb_in {w : Cond} (h : w ∈ lw_tbl) (hg : goodWord w = true) : w ∈ tbG := List.mem_filter.mpr ⟨h, hg⟩
theorem tb_of {w : Cond} (h : w ∈ tbG) : w ∈ lw_tbl := (List.mem_filter.mp h).1
theorem tb_good {w : Cond} (h : w ∈ tbG) : goodWord w = true := (List.mem_filter.mp h).2
end
section
/-! THE HEAP AS PURE FUNCTIONS: the kind of each address (0: no cell; 1 + ci: an object of class ci; 13 int[], 14 boolean[], 15 Caller[], 16 Line[], 17 Place[], 18 int[][]), lengths, ints, references, the size -/
abbrev Hp : Type := (Nat → Nat) × (Nat → Nat) × (Nat → Nat → Int32) × (Nat → Nat → Option Nat) × Nat
def u2 {α : Type} (f : Nat → Nat → α) (a k : Nat) (v : α) : Nat → Nat → α := va_up f a (va_up (f a) k v)
def hp_si (h : Hp) (a k : Nat) (v : Int32) : Hp := (h.1, h.2.1, u2 h.2.2.1 a k v, h.2.2.2.1, h.2.2.2.2)
def hp_sr (h : Hp) (a k : Nat) (v : Option Nat) : Hp := (h.1, h.2.1, h.2.2.1, u2 h.2.2.2.1 a k v, h.2.2.2.2)
def hp_nw (h : Hp) (kd n : Nat) : Hp := (va_up h.1 h.2.2.2.2 kd, va_up h.2.1 h.2.2.2.2 n, va_up h.2.2.1 h.2.2.2.2 (fun _ => 0), va_up h.2.2.2.1 h.2.2.2.2 (fun _ => none), h.2.2.2.2 + 1)
/-- which fields of a class are references -/
def hp_rs : List (List Nat) := [[], [0, 1], [0], [], [0, 1, 2], [5], [0, 1, 5, 6, 7, 8, 9], [0, 1], [6, 7, 8], [0], [0, 1, 2, 3, 4, 5, 6, 7], [1, 2, 3, 4, 5, 6, 7, 8, 9, 10, 11, 12, 13, 14, 16, 17, 18, 19, 20, 21, 27, 28, 29, 30, 36, 42, 43, 44, 45, 46, 47, 48, 49, 50, 51, 52, 55, 56]]
def hp_nf : List Nat := [5, 3, 2, 4, 3, 11, 10, 2, 10, 1, 8, 57]
def hp_isr (ci k : Nat) : Bool := (hp_rs.getD ci []).contains k
def hp_fv (h : Hp) (ci a k : Nat) : Value := if hp_isr ci k = true then va_rf (h.2.2.2.1 a k) else .int (h.2.2.1 a k)
def hp_fs (h : Hp) (ci a : Nat) : List Value := (List.range (hp_nf.getD ci 0)).map (hp_fv h ci a)
def hp_c (cA : Nat → ClassId) (h : Hp) (a : Nat) : va_E :=
  if h.1 a < 13 then .inr (h.1 a - 1, hp_fs h (h.1 a - 1) a)
  else if h.1 a < 15 then .inl (cA (h.1 a), h.2.1 a, .inl (h.2.2.1 a))
  else .inl (cA (h.1 a), h.2.1 a, .inr (.inr (.inr (.inr (h.2.2.2.1 a)))))
abbrev hp_ty (cA : Nat → ClassId) : List (ClassId × FieldType) := [(cA 13, .int), (cA 14, .boolean), (cA 15, .object RX0), (cA 16, .object RX3), (cA 17, .object RX5), (cA 18, .array .int)]
def hp_NW : List Cond := [Cond.methodLinkNest "SpokenMenus" 9 ({ cls := "SpokenMenus$House", name := "<init>", desc := "()V" } : MethodName) "SpokenMenus", Cond.methodLinkNest "SpokenMenus" 18 ({ cls := "SpokenMenus$Ways", name := "<init>", desc := "()V" } : MethodName) "SpokenMenus", Cond.methodLinkNest "SpokenMenus" 25 ({ cls := "SpokenMenus$Traps", name := "<init>", desc := "()V" } : MethodName) "SpokenMenus", Cond.methodLinkNest "SpokenMenus" 32 ({ cls := "SpokenMenus$Groups", name := "<init>", desc := "()V" } : MethodName) "SpokenMenus", Cond.methodLinkNest "SpokenMenus" 39 ({ cls := "SpokenMenus$Ordering", name := "<init>", desc := "()V" } : MethodName) "SpokenMenus", Cond.methodLinkNest "SpokenMenus" 53 ({ cls := "SpokenMenus$Walk", name := "<init>", desc := "()V" } : MethodName) "SpokenMenus", Cond.methodLinkNest "SpokenMenus$Walk" 87 ({ cls := "SpokenMenus", name := "clear", desc := "([Z)V" } : MethodName) "SpokenMenus", Cond.methodLinkNest "SpokenMenus$Traps" 18 ({ cls := "SpokenMenus", name := "clear", desc := "([Z)V" } : MethodName) "SpokenMenus"]
def hp_N (U : State) : Prop := (∀ w ∈ hp_NW, va_Nw w U) ∧ va_AO RX0 U ∧ va_AO RX3 U ∧ va_AO RX5 U
def hp_w (D : va_G) (cA : Nat → ClassId) (h : Hp) (H : Heap) : Prop := H.size = h.2.2.2.2 ∧ ∀ a, h.1 a ≠ 0 → va_at D vwCl (a, hp_c cA h a) H
def hp_U (D : va_G) (cA : Nat → ClassId) (h : Hp) (U : State) : Prop := hp_w D cA h U.heap ∧ va_K D vwCl (hp_ty cA) U ∧ hp_N U
def hp_A (h : Hp) : Nat → Prop := fun q => h.1 q ≠ 0 ∨ h.2.2.2.2 ≤ q
def hp_B (D : va_G) (cA : Nat → ClassId) (A : Nat → Prop) (s : State) (h : Hp) (H : Heap) (locs : List Loc) : Prop :=
  hp_w D cA h H ∧ va_K D vwCl (hp_ty cA) s ∧ hp_N s ∧ (∀ a, h.1 a ≠ 0 → A a) ∧ (∀ q, s.heap.size ≤ q → A q) ∧ va_S A s.heap H locs
theorem hp_N.warm {s U : State} (hW : s.WarmedH U.vm) (h : hp_N s) : hp_N U := by
  obtain ⟨h1, h2, h3, h4⟩ := h
  refine ⟨fun w hw => ?_, va_AO.moved hW.alike h2, va_AO.moved hW.alike h3, va_AO.moved hW.alike h4⟩
  have h0 := h1 w hw
  simp only [hp_NW, List.mem_cons, List.not_mem_nil, or_false] at hw
  rcases hw with rfl | rfl | rfl | rfl | rfl | rfl | rfl | rfl <;> exact va_Nw.warmM hW h0
theorem hp_N.same {s U : State} (hv : s.vm = U.vm) (h : hp_N s) : hp_N U := by
  obtain ⟨h1, h2, h3, h4⟩ := h
  refine ⟨fun w hw => ?_, va_AO.moved (by rw [hv]; exact Vm.Alike.refl _) h2, va_AO.moved (by rw [hv]; exact Vm.Alike.refl _) h3, va_AO.moved (by rw [hv]; exact Vm.Alike.refl _) h4⟩
  have h0 := h1 w hw
  refine va_Nw.same ?_ hv h0
  simp only [hp_NW, List.mem_cons, List.not_mem_nil, or_false] at hw
  rcases hw with rfl | rfl | rfl | rfl | rfl | rfl | rfl | rfl <;> rfl
theorem hp_blind {D : va_G} {cA : Nat → ClassId} {h : Hp} {av : List Value} : FrameBlind (va_Pc av (hp_U D cA h)) := fun a U g mk q => by
  obtain ⟨q0, q1, q2, q3⟩ := q
  exact ⟨q0, q1, va_K.moved (u := U) (U := U.calling g mk a) (Vm.Alike.refl U.vm) q2, hp_N.same (s := U) (U := U.calling g mk a) rfl q3⟩
theorem hp_B.U {D : va_G} {cA : Nat → ClassId} {A : Nat → Prop} {s U : State} {h : Hp} {H : Heap} {locs : List Loc} (hB : hp_B D cA A s h H locs) (hU : U.heap = H) (hW : s.WarmedH U.vm) : hp_U D cA h U :=
  ⟨by rw [hU]; exact hB.1, va_K.moved hW.alike hB.2.1, hp_N.warm hW hB.2.2.1⟩
theorem hp_B.entry {D : va_G} {cA : Nat → ClassId} {s : State} {h : Hp} (hU : hp_U D cA h s) : hp_B D cA (hp_A h) s h s.heap [] :=
  ⟨hU.1, hU.2.1, hU.2.2, fun _ h1 => Or.inl h1, fun q hq => Or.inr (by rw [← hU.1.1]; exact hq), va_S.rf⟩
theorem u2_ne {α : Type} {f : Nat → Nat → α} {a k b : Nat} {v : α} (hb : b ≠ a) : u2 f a k v b = f b := va_up_ne _ _ hb
theorem u2_row {α : Type} {f : Nat → Nat → α} {a k : Nat} {v : α} : u2 f a k v a = va_up (f a) k v := va_up_self _ _ _
/-- two heaps that differ at one address in what the cells hold -/
def hp_like (h h' : Hp) (a : Nat) : Prop := h'.1 = h.1 ∧ h'.2.1 = h.2.1 ∧ h'.2.2.2.2 = h.2.2.2.2 ∧ ∀ b, b ≠ a → h'.2.2.1 b = h.2.2.1 b ∧ h'.2.2.2.1 b = h.2.2.2.1 b
theorem hp_like_si (h : Hp) (a k : Nat) (v : Int32) : hp_like h (hp_si h a k v) a := ⟨rfl, rfl, rfl, fun b hb => ⟨u2_ne hb, rfl⟩⟩
theorem hp_like_sr (h : Hp) (a k : Nat) (v : Option Nat) : hp_like h (hp_sr h a k v) a := ⟨rfl, rfl, rfl, fun b hb => ⟨rfl, u2_ne hb⟩⟩
theorem hp_c_ne {cA : Nat → ClassId} {h h' : Hp} {a b : Nat} (hl : hp_like h h' a) (hb : b ≠ a) : hp_c cA h' b = hp_c cA h b := by
  obtain ⟨e1, e2, e3, e4⟩ := hl
  obtain ⟨e5, e6⟩ := e4 b hb
  have e7 : ∀ ci, hp_fv h' ci b = hp_fv h ci b := fun ci => funext fun j => by simp only [hp_fv, e5, e6]
  simp only [hp_c, hp_fs, e1, e2, e5, e6, e7]
theorem hp_fs_len {h : Hp} {ci a : Nat} : (hp_fs h ci a).length = hp_nf.getD ci 0 := by simp [hp_fs]
theorem hp_fs_get {h : Hp} {ci a k : Nat} (hk : k < hp_nf.getD ci 0) : (hp_fs h ci a)[k]? = some (hp_fv h ci a k) := by
  unfold hp_fs
  rw [List.getElem?_map, List.getElem?_range hk]
  rfl
theorem hp_fs_set {h h' : Hp} {ci a k : Nat} {v : Value} (hk : k < hp_nf.getD ci 0) (h1 : hp_fv h' ci a k = v) (h2 : ∀ j, j ≠ k → hp_fv h' ci a j = hp_fv h ci a j) : (hp_fs h ci a).set k v = hp_fs h' ci a := by
  apply List.ext_getElem?
  intro j
  by_cases hj : j = k
  · subst hj
    rw [List.getElem?_set_self (by rw [hp_fs_len]; exact hk), hp_fs_get hk, h1]
  · rw [List.getElem?_set_ne (Ne.symm hj)]
    by_cases hn : j < hp_nf.getD ci 0
    · rw [hp_fs_get hn, hp_fs_get hn, h2 j hj]
    · rw [List.getElem?_eq_none (by rw [hp_fs_len]; omega), List.getElem?_eq_none (by rw [hp_fs_len]; omega)]
theorem hp_fs_si {h : Hp} {ci a k : Nat} {v : Int32} (hk : k < hp_nf.getD ci 0) (hr : hp_isr ci k = false) : (hp_fs h ci a).set k (.int v) = hp_fs (hp_si h a k v) ci a :=
  hp_fs_set hk (by simp [hp_fv, hr, hp_si, u2, va_up]) (fun j hj => by simp [hp_fv, hp_si, u2, va_up, hj])
theorem hp_fs_sr {h : Hp} {ci a k : Nat} {v : Option Nat} (hk : k < hp_nf.getD ci 0) (hr : hp_isr ci k = true) : (hp_fs h ci a).set k (va_rf v) = hp_fs (hp_sr h a k v) ci a :=
  hp_fs_set hk (by simp [hp_fv, hr, hp_sr, u2, va_up]) (fun j hj => by simp [hp_fv, hp_sr, u2, va_up, hj])
theorem hp_c_obj {cA : Nat → ClassId} {h : Hp} {a ci : Nat} (hk : h.1 a = ci + 1) (hci : ci < 12) : hp_c cA h a = .inr (ci, hp_fs h ci a) := by
  unfold hp_c
  rw [hk, if_pos (by omega)]
  rfl
theorem hp_c_int {cA : Nat → ClassId} {h : Hp} {a : Nat} (hk : h.1 a = 13) : hp_c cA h a = .inl (cA 13, h.2.1 a, .inl (h.2.2.1 a)) := by
  unfold hp_c
  rw [hk]
  rfl
theorem hp_c_bool {cA : Nat → ClassId} {h : Hp} {a : Nat} (hk : h.1 a = 14) : hp_c cA h a = .inl (cA 14, h.2.1 a, .inl (h.2.2.1 a)) := by
  unfold hp_c
  rw [hk]
  rfl
theorem hp_c_ref {cA : Nat → ClassId} {h : Hp} {a : Nat} (hk : 15 ≤ h.1 a) : hp_c cA h a = .inl (cA (h.1 a), h.2.1 a, .inr (.inr (.inr (.inr (h.2.2.2.1 a))))) := by
  unfold hp_c
  rw [if_neg (by omega), if_neg (by omega)]
theorem hp_w.set {D : va_G} {cA : Nat → ClassId} {h h' : Hp} {H H1 : Heap} {a : Nat} (hw : hp_w D cA h H) (hl : hp_like h h' a) (he : va_at D vwCl (a, hp_c cA h' a) H1) (hz : H1.size = H.size) (oq : ∀ q : Nat, q ≠ a → H1[q]? = H[q]?) : hp_w D cA h' H1 := by
  refine ⟨by rw [hz, hw.1, hl.2.2.1], fun b hb => ?_⟩
  by_cases e : b = a
  · subst e; exact he
  · rw [hp_c_ne hl e]
    exact (hw.2 b (by rw [← hl.1]; exact hb)).kept (oq b e)
theorem hp_B.set {D : va_G} {cA : Nat → ClassId} {A : Nat → Prop} {s : State} {h h' : Hp} {H H1 : Heap} {locs : List Loc} {a k : Nat} (hB : hp_B D cA A s h H locs) (ha : h.1 a ≠ 0) (hl : hp_like h h' a) (he : va_at D vwCl (a, hp_c cA h' a) H1) (hz : H1.size = H.size) (oq : ∀ q : Nat, q ≠ a → H1[q]? = H[q]?) : hp_B D cA A s h' H1 (locs ++ [⟨a, k⟩]) :=
  ⟨hB.1.set hl he hz oq, hB.2.1, hB.2.2.1, fun b hb => hB.2.2.2.1 b (by rw [← hl.1]; exact hb), hB.2.2.2.2.1, hB.2.2.2.2.2.put hz oq (hB.2.2.2.1 a ha)⟩
theorem hp_one {D : va_G} {cA : Nat → ClassId} {A : Nat → Prop} {s : State} {h : Hp} {H : Heap} {locs : List Loc} {a : Nat} {x : va_E} (hB : hp_B D cA A s h H locs) (ha : h.1 a ≠ 0) (hx : hp_c cA h a = x) : va_P D vwCl [(a, x)] H := by
  intro k q hk
  have h0 : k < 1 := (List.getElem?_eq_some_iff.mp hk).1
  rw [show k = 0 by omega] at hk
  cases hk
  rw [← hx]
  exact hB.1.2 a ha
theorem hp_new_w {D : va_G} {cA : Nat → ClassId} {h : Hp} {H H1 : Heap} {kd n : Nat} (hw : hp_w D cA h H) (he : va_at D vwCl (h.2.2.2.2, hp_c cA (hp_nw h kd n) h.2.2.2.2) H1) (hz : H1.size = H.size + 1) (oq : ∀ q : Nat, q < H.size → H1[q]? = H[q]?) : hp_w D cA (hp_nw h kd n) H1 := by
  refine ⟨by rw [hz, hw.1]; rfl, fun b hb => ?_⟩
  by_cases e : b = h.2.2.2.2
  · subst e; exact he
  · have e1 : (hp_nw h kd n).1 b = h.1 b := va_up_ne _ _ e
    have e2 : (hp_nw h kd n).2.1 b = h.2.1 b := va_up_ne _ _ e
    have e3 : (hp_nw h kd n).2.2.1 b = h.2.2.1 b := va_up_ne _ _ e
    have e4 : (hp_nw h kd n).2.2.2.1 b = h.2.2.2.1 b := va_up_ne _ _ e
    have e7 : ∀ ci, hp_fv (hp_nw h kd n) ci b = hp_fv h ci b := fun ci => funext fun j => by simp only [hp_fv, e3, e4]
    have e5 : hp_c cA (hp_nw h kd n) b = hp_c cA h b := by simp only [hp_c, hp_fs, e1, e2, e3, e4, e7]
    rw [e5]
    have hb' : h.1 b ≠ 0 := by rw [← e1]; exact hb
    exact (hw.2 b hb').kept (oq b (hw.2 b hb').lt)
theorem hp_new_B {D : va_G} {cA : Nat → ClassId} {A : Nat → Prop} {s : State} {h : Hp} {H H1 : Heap} {locs : List Loc} {kd n : Nat} (hB : hp_B D cA A s h H locs) (he : va_at D vwCl (h.2.2.2.2, hp_c cA (hp_nw h kd n) h.2.2.2.2) H1) (hz : H1.size = H.size + 1) (oq : ∀ q : Nat, q < H.size → H1[q]? = H[q]?) : hp_B D cA A s (hp_nw h kd n) H1 locs := by
  obtain ⟨hw, hK, hN, hA, hF, hS⟩ := hB
  refine ⟨hp_new_w hw he hz oq, hK, hN, fun b hb => ?_, hF, ⟨Nat.le_trans hS.1 (by omega), fun x h1 h2 => (oq x (Nat.lt_of_lt_of_le h1 hS.1)).trans (hS.2.1 x h1 h2), hS.2.2⟩⟩
  by_cases e : b = h.2.2.2.2
  · subst e; exact hF _ (by rw [← hw.1]; exact hS.1)
  · exact hA b (by rw [← show (hp_nw h kd n).1 b = h.1 b from va_up_ne _ _ e]; exact hb)
theorem hp_new_fv {h : Hp} {kd n ci k : Nat} : hp_fv (hp_nw h kd n) ci h.2.2.2.2 k = if hp_isr ci k = true then .null else .int 0 := by
  simp only [hp_fv, hp_nw, va_up_self]
  rfl
theorem u_good {C : String} {T : u_T} {N : Nat} {w : Cond} (h : w ∈ u_ws C T N) : goodWord w = true := by
  obtain ⟨k, -, rfl⟩ := List.mem_map.mp h
  unfold u_lay
  split <;> rfl
theorem u_inG {C : String} {T : u_T} {N : Nat} (h : ∀ w ∈ u_ws C T N, w ∈ lw_tbl) : ∀ w ∈ u_ws C T N, w ∈ tbG := fun w hw => tb_in (h w hw) (u_good hw)
/-! what the pure functions are made of, and how a walk takes them apart -/
def gd {α : Type} (b : Bool) (x : Option α) : Option α := if b = true then x else none
theorem gd_ok {α : Type} {b : Bool} {x : Option α} {r : α} (h : gd b x = some r) : b = true ∧ x = some r := by
  unfold gd at h
  split at h
  · exact ⟨by assumption, h⟩
  · cases h
def nm {α β : Type} (v : α) (k : α → β) : β := k v
theorem nm_ok {α β : Type} {v : α} {k : α → Option β} {r : β} (h : nm v k = some r) : ∃ x, x = v ∧ k x = some r := ⟨v, rfl, h⟩
def bd {α β : Type} (o : Option α) (k : α → Option β) : Option β := match o with
  | none => none
  | some a => k a
theorem bd_ok {α β : Type} {o : Option α} {k : α → Option β} {r : β} (h : bd o k = some r) : ∃ a, o = some a ∧ k a = some r := by
  cases o with
  | none => cases h
  | some a => exact ⟨a, rfl, h⟩
def rn {β : Type} (o : Option Nat) (x : β) (k : Nat → β) : β := match o with
  | none => x
  | some a => k a
def fx {F : Type} (b : F → F) (z : F) : Nat → F
  | 0 => z
  | n + 1 => b (fx b z n)
def gk {α : Type} (n k : Nat) (x : Option α) : Option α := if n = k then x else none
theorem gk_ok {α : Type} {n k : Nat} {x : Option α} {r : α} (h : gk n k x = some r) : n = k ∧ x = some r := by
  unfold gk at h
  split at h
  · exact ⟨by assumption, h⟩
  · cases h
def b2 {α β : Type} (o : Option (α × Hp)) (k : α → Hp → Option β) : Option β := match o with
  | none => none
  | some q => k q.1 q.2
theorem b2_ok {α β : Type} {o : Option (α × Hp)} {k : α → Hp → Option β} {r : β} (h : b2 o k = some r) : ∃ a g, o = some (a, g) ∧ k a g = some r := by
  cases o with
  | none => cases h
  | some q => exact ⟨q.1, q.2, rfl, h⟩
theorem rt_ok {α β : Type} {a c : α} {b d : β} (h : some (a, b) = some (c, d)) : c = a ∧ d = b := by
  cases h
  exact ⟨rfl, rfl⟩
theorem it_t {α : Type} {c : Prop} [Decidable c] {x y r : α} (h : c) (hf : (if c then x else y) = r) : x = r := by
  rw [if_pos h] at hf
  exact hf
theorem it_f {α : Type} {c : Prop} [Decidable c] {x y r : α} (h : ¬ c) (hf : (if c then x else y) = r) : y = r := by
  rw [if_neg h] at hf
  exact hf
theorem rn_n {β : Type} {x r : β} {k : Nat → β} (hf : rn none x k = r) : x = r := hf
theorem rn_s {β : Type} {x r : β} {k : Nat → β} {a : Nat} (hf : rn (some a) x k = r) : k a = r := hf
theorem cat_i (x : Int32) : (Value.int x).category = 1 := rfl
theorem cat_r (x : Nat) : (Value.ref x).category = 1 := rfl
theorem cat_n : (Value.null).category = 1 := rfl
theorem va_rf_cat (o : Option Nat) : (va_rf o).category = 1 := by cases o <;> rfl
def ix (i : Int32) (n : Nat) : Bool := decide (¬ (i < 0 ∨ n ≤ i.toNatClampNeg))
theorem ix_in {i : Int32} {n : Nat} (h : ix i n = true) : vp_in i n := by
  unfold vp_in
  exact of_decide_eq_true h
def zb (x : Int32) : Bool := decide (x = 0) || decide (x = 1)
theorem zb_nar {x : Int32} (h : zb x = true) : narrow .boolean (.int x) = .int x := by
  unfold zb at h
  rcases (by simpa using h : x = 0 ∨ x = 1) with rfl | rfl <;> rfl
theorem zb_vp {x : Int32} (h : zb x = true) : vp_nar .boolean x = x := by
  unfold zb at h
  rcases (by simpa using h : x = 0 ∨ x = 1) with rfl | rfl <;> rfl
theorem zb_fit {x : Int32} (h : zb x = true) : fits .boolean (.int x) = true := by
  unfold zb at h
  rcases (by simpa using h : x = 0 ∨ x = 1) with rfl | rfl <;> rfl
def NF : Nat := 4000000
section HPR
variable {p : Program} {l : Launch} {e : Env} {R : Room} {s : State} {m : MethodId} {args : Array Value} {below : List Frame} {meth : Method} {c : Code} {H : Heap} {locs : List Loc} {cells slots : Nat} {Q : State → Prop}
variable {cc : ByteArray} {pc nL : Nat} {ls : Array Slot} {rest : List Value} {D : va_G} {cA : Nat → ClassId} {A : Nat → Prop} {a : Nat} {h : Hp} {own : String}
theorem hp_getI (cx : CallFix p m c cc nL s args tbG own) (hB : hp_B D cA A s h H locs) {C : String} {T : u_T} {N ci index : Nat} (k : Nat) (hc : vwCl[ci]? = some (C, T, N)) (hin : ∀ w ∈ u_ws C T N, w ∈ lw_tbl) (hci : ci < 12) (hN : hp_nf.getD ci 0 = N) (hk : k < N) (hr : hp_isr ci k = false) (hl : Cond.fieldLink own index (T k).1 (T k).2.1 (T k).2.2.1 ∈ lw_tbl) (hka : h.1 a = ci + 1) (hdg : decode cc pc = .ok (.getfield index, 3))
    (kk : W p l e R s m args below meth c H locs cells slots Q (F0 m (pc + 3) ls (.int (h.2.2.1 a k) :: rest))) : W p l e R s m args below meth c H locs cells slots Q (F0 m pc ls (.ref a :: rest)) := by
  obtain ⟨hx, hb, hml, hown, hts⟩ := cx
  refine va_get (D := D) (ci := ci) (v := .int (h.2.2.1 a k)) hx hb hts (u_inG hin) hown hB.2.1 (hp_one hB (by omega) (hp_c_obj hka hci)) 0 rfl hc k hk (hts _ (tb_in hl rfl)) (fun _ h9 => h9) ?_ hdg kk
  rw [hp_fs_get (by omega)]
  simp [hp_fv, hr]
theorem hp_getR (cx : CallFix p m c cc nL s args tbG own) (hB : hp_B D cA A s h H locs) {C : String} {T : u_T} {N ci index : Nat} (k : Nat) (hc : vwCl[ci]? = some (C, T, N)) (hin : ∀ w ∈ u_ws C T N, w ∈ lw_tbl) (hci : ci < 12) (hN : hp_nf.getD ci 0 = N) (hk : k < N) (hr : hp_isr ci k = true) (hl : Cond.fieldLink own index (T k).1 (T k).2.1 (T k).2.2.1 ∈ lw_tbl) (hka : h.1 a = ci + 1) {o : Option Nat} (ho : o = h.2.2.2.1 a k) (hdg : decode cc pc = .ok (.getfield index, 3))
    (kk : W p l e R s m args below meth c H locs cells slots Q (F0 m (pc + 3) ls (va_rf o :: rest))) : W p l e R s m args below meth c H locs cells slots Q (F0 m pc ls (.ref a :: rest)) := by
  obtain ⟨hx, hb, hml, hown, hts⟩ := cx
  refine va_get (D := D) (ci := ci) (v := va_rf o) hx hb hts (u_inG hin) hown hB.2.1 (hp_one hB (by omega) (hp_c_obj hka hci)) 0 rfl hc k hk (hts _ (tb_in hl rfl)) (fun _ h9 => h9) ?_ hdg kk
  rw [hp_fs_get (by omega), ho]
  simp [hp_fv, hr]
theorem hp_putX (cx : CallFix p m c cc nL s args tbG own) (hB : hp_B D cA A s h H locs) {C : String} {T : u_T} {N ci index : Nat} (k : Nat) (ty0 : Nat → FieldType) (hty : ∀ k, k < N → parseFieldDescriptor (T k).2.2.1 = some (ty0 k)) (hnm : ∀ a, a < N → ∀ b, b < N → a ≠ b → (T a).2.1 ≠ (T b).2.1) (hc : vwCl[ci]? = some (C, T, N)) (hin : ∀ w ∈ u_ws C T N, w ∈ lw_tbl) (hci : ci < 12) (hN : hp_nf.getD ci 0 = N) (hk : k < N) (hfin : (T k).2.2.2 = false ∨ ((T k).2.2.2 = true ∧ meth.name = "<init>" ∧ (T k).1 = own)) (hl : Cond.fieldLink own index (T k).1 (T k).2.1 (T k).2.2.1 ∈ lw_tbl) (hka : h.1 a = ci + 1) {v : Value} {h' : Hp} (hlk : hp_like h h' a) (hfs : (hp_fs h ci a).set k v = hp_fs h' ci a) (hn : narrow (ty0 k) v = v) (hfit : fits (ty0 k) v = true) (hdg : decode cc pc = .ok (.putfield index, 3))
    (kk : ∀ (H1 : Heap) (locs1 : List Loc), hp_B D cA A s h' H1 locs1 → W p l e R s m args below meth c H1 locs1 cells slots Q (F0 m (pc + 3) ls rest)) : W p l e R s m args below meth c H locs cells slots Q (F0 m pc ls (v :: .ref a :: rest)) := by
  obtain ⟨hx, hb, hml, hown, hts⟩ := cx
  have hin' := u_inG hin
  have hK := hB.2.1
  have hap := va_apart (own := own) hts hin' ty0 hty hnm hK hc
  have hP := hp_one hB (by omega) (hp_c_obj hka hci)
  obtain ⟨r, h1, cell, q1, q2, q3, q4⟩ := hP 0 _ rfl
  have hr : r = (C, T, N) := Option.some.inj (h1.symm.trans hc)
  subst hr
  obtain ⟨hS, hfc, kC, hkC, hkind⟩ := hK.1 ci _ hc
  obtain ⟨cf, kf, fi, f, hi, hsl⟩ := hS k hk
  have hlay := hts _ (hin' _ (u_in_lay hk))
  unfold u_lay at hlay
  have hst := (u_facts hfc hkC (u_lays hts hin' hk) hi).1
  have hd := hty k hk
  have hl' := hts _ (tb_in hl rfl)
  have fin : ∀ H' : Heap, H'[a]? = some (cell.setSlot (D.2 ci k) v) → H'.size = H.size → (∀ q, q ≠ a → H'[q]? = H[q]?) → hp_B D cA A s h' H' (locs ++ [⟨a, D.2 ci k⟩]) := fun H' e1 e2 e3 => by
    refine hB.set (by omega) hlk ?_ e2 e3
    rw [hp_c_obj (by rw [hlk.1]; exact hka) hci, ← hfs]
    exact ⟨_, hc, t_OB.to (V := updV (vp_V (hp_fs h ci a)) k v) ⟨_, e1, q2, q3, t_set q4 hap hk v⟩ (fun j _ => vp_updV_set (by rw [hp_fs_len]; omega) v j)⟩
  rcases hfin with hfin | ⟨hfin, hin2, hdecl⟩
  · rw [if_neg (by rw [hfin]; decide)] at hlay
    have h6 := u_store hfc hkC hkind hlay hi hd hn hfit
    refine W.putK hx hb (f := f) ⟨hown, hl', ⟨_, _, _, hi⟩, hst⟩ (by rw [q2]; exact h6) q1 q3 (by rw [hsl]; exact k2_hasslot (q4 k hk)) rfl rfl hdg fun H' e1 e2 e3 => ?_
    rw [hsl] at e1 ⊢
    exact kk H' _ (fin H' e1 e2 e3)
  · rw [if_pos hfin] at hlay
    have hcf : m.cls = cf := by
      obtain ⟨_, _, c', _, _, _, -, -, hf', -, -, -, hown2, -⟩ := Cond.laysFinal_spec hlay
      have e1 : c' = cf := by have := hi.symm.trans hf'; simp at this; exact this.1.symm
      rw [hdecl] at hown2
      rw [← e1]; exact Option.some.inj (hown.symm.trans hown2)
    have h6 := u_fits hfc hkC hkind (Or.inr hlay) hi hd hn hfit
    refine W.putFinK hx hb hown hl' hi hst hcf hin2 (by rw [q2]; exact h6) q1 q3 (by rw [hsl]; exact k2_hasslot (q4 k hk)) rfl rfl hdg fun H' e1 e2 e3 => ?_
    rw [hsl] at e1 ⊢
    exact kk H' _ (fin H' e1 e2 e3)
theorem hp_fitR {ty : FieldType} (hty : (∃ n, ty = .object n) ∨ ∃ t, ty = .array t) (v : Option Nat) : narrow ty (va_rf v) = va_rf v ∧ fits ty (va_rf v) = true := by
  rcases hty with ⟨n, rfl⟩ | ⟨t, rfl⟩ <;> cases v <;> exact ⟨rfl, rfl⟩
theorem hp_iald (cx : CallFix p m c cc nL s args tbG own) (hB : hp_B D cA A s h H locs) (hka : h.1 a = 13) {i : Int32} (hi : ix i (h.2.1 a) = true) (hdg : decode cc pc = .ok (.iaload, 1))
    (kk : W p l e R s m args below meth c H locs cells slots Q (F0 m (pc + 1) ls (.int (h.2.2.1 a i.toNatClampNeg) :: rest))) : W p l e R s m args below meth c H locs cells slots Q (F0 m pc ls (.int i :: .ref a :: rest)) :=
  va_iald cx.1 cx.2.1 hB.2.1 (hp_one hB (by omega) (hp_c_int hka)) 0 0 rfl rfl (ix_in hi) hdg kk
theorem hp_zald (cx : CallFix p m c cc nL s args tbG own) (hB : hp_B D cA A s h H locs) (hka : h.1 a = 14) {i : Int32} (hi : ix i (h.2.1 a) = true) (hdg : decode cc pc = .ok (.baload, 1))
    (kk : W p l e R s m args below meth c H locs cells slots Q (F0 m (pc + 1) ls (.int (h.2.2.1 a i.toNatClampNeg) :: rest))) : W p l e R s m args below meth c H locs cells slots Q (F0 m pc ls (.int i :: .ref a :: rest)) :=
  va_zald cx.1 cx.2.1 hB.2.1 (hp_one hB (by omega) (hp_c_bool hka)) 0 1 rfl rfl (ix_in hi) hdg kk
theorem hp_aald (cx : CallFix p m c cc nL s args tbG own) (hB : hp_B D cA A s h H locs) (kd : Nat) (ty : FieldType) (hkd : 15 ≤ kd) (ht : (hp_ty cA)[kd - 13]? = some (cA kd, ty)) (hty : ty.isReference = true) (hka : h.1 a = kd) {i : Int32} (hi : ix i (h.2.1 a) = true) {o : Option Nat} (ho : o = h.2.2.2.1 a i.toNatClampNeg) (hdg : decode cc pc = .ok (.aaload, 1))
    (kk : W p l e R s m args below meth c H locs cells slots Q (F0 m (pc + 1) ls (va_rf o :: rest))) : W p l e R s m args below meth c H locs cells slots Q (F0 m pc ls (.int i :: .ref a :: rest)) := by
  have hin := ix_in hi
  have hlt : i.toNatClampNeg < h.2.1 a := Nat.not_le.mp fun q => hin (Or.inr q)
  subst hka
  have hP := hp_one hB (by omega) (hp_c_ref hkd)
  subst ho
  exact W.aald (v := va_rf (h.2.2.2.1 a i.toNatClampNeg)) (ty := ty) cx.1 cx.2.1 (hP 0 _ rfl) ((hB.2.1.2 _ _ ht).1 (h.2.1 a) (fun j => va_rf (h.2.2.2.1 a j))) hty (fun q => by cases q) (by show ¬ (i < 0 ∨ (arrV _ _ _).slots.size ≤ _); rw [arrV_size]; exact hin) (by show (arrV _ _ _).slots[_]? = _; rw [arrV_read _ _ hlt]) rfl rfl hdg kk
theorem hp_alen (cx : CallFix p m c cc nL s args tbG own) (hB : hp_B D cA A s h H locs) (kd : Nat) (ty : FieldType) (hkd : 13 ≤ kd) (ht : (hp_ty cA)[kd - 13]? = some (cA kd, ty)) (hka : h.1 a = kd) (hdg : decode cc pc = .ok (.arraylength, 1))
    (kk : W p l e R s m args below meth c H locs cells slots Q (F0 m (pc + 1) ls (.int (Int32.ofNat (h.2.1 a)) :: rest))) : W p l e R s m args below meth c H locs cells slots Q (F0 m pc ls (.ref a :: rest)) := by
  subst hka
  have hx : ∃ x : vp_A, x.1 = h.2.1 a ∧ hp_c cA h a = .inl (cA (h.1 a), x) := by
    unfold hp_c
    rw [if_neg (by omega)]
    split
    · exact ⟨_, rfl, rfl⟩
    · exact ⟨_, rfl, rfl⟩
  obtain ⟨x, hx1, hx2⟩ := hx
  exact va_alen cx.1 cx.2.1 hB.2.1 (hp_one hB (by omega) hx2) 0 (h.1 a - 13) rfl ht (by rw [hx1]) hdg kk
end HPR
end
section
/-! rows of the heap that write, make, call and return -/
def hp_Qi (D : va_G) (cA : Nat → ClassId) (h h' : Hp) (r : Int32) : Array Value → State → Outcome → State → Prop := va_Qi (fun (r' : Int32) (_ : Unit) => r' = r ∧ ∀ a, h'.1 a ≠ 0 → hp_A h a) (fun _ t => hp_U D cA h' t) (hp_A h)
def hp_Qv (D : va_G) (cA : Nat → ClassId) (h h' : Hp) : Array Value → State → Outcome → State → Prop := va_Qv (fun (_ : Unit) => ∀ a, h'.1 a ≠ 0 → hp_A h a) (fun _ t => hp_U D cA h' t) (hp_A h)
def hp_Qr (D : va_G) (cA : Nat → ClassId) (h h' : Hp) (r : Option Nat) : Array Value → State → Outcome → State → Prop := va_Qq (fun (r' : Option Nat) (_ : Unit) => r' = r ∧ ∀ a, h'.1 a ≠ 0 → hp_A h a) (fun _ t => hp_U D cA h' t) (hp_A h)
section HPS
variable {p : Program} {l : Launch} {e : Env} {R : Room} {s : State} {m : MethodId} {args : Array Value} {below : List Frame} {meth : Method} {c : Code} {H : Heap} {locs : List Loc} {cells slots : Nat} {Q : State → Prop}
variable {cc : ByteArray} {pc nL : Nat} {ls : Array Slot} {rest : List Value} {D : va_G} {cA : Nat → ClassId} {A : Nat → Prop} {a : Nat} {h : Hp} {own : String}
theorem hp_iast (cx : CallFix p m c cc nL s args tbG own) (hB : hp_B D cA A s h H locs) (hka : h.1 a = 13) {i x : Int32} (hi : ix i (h.2.1 a) = true) (hdg : decode cc pc = .ok (.iastore, 1))
    (kk : ∀ (H1 : Heap) (locs1 : List Loc), hp_B D cA A s (hp_si h a i.toNatClampNeg x) H1 locs1 → W p l e R s m args below meth c H1 locs1 cells slots Q (F0 m (pc + 1) ls rest)) : W p l e R s m args below meth c H locs cells slots Q (F0 m pc ls (.int x :: .int i :: .ref a :: rest)) := by
  have hin := ix_in hi
  have hP := hp_one hB (by omega) (hp_c_int hka)
  refine W.iast cx.1 cx.2.1 (hP 0 _ rfl) ((hB.2.1.2 0 _ rfl).1 (h.2.1 a) (fun j => .int (h.2.2.1 a j))) (fun q => by cases q) (by show ¬ (i < 0 ∨ (arrV _ _ _).slots.size ≤ _); rw [arrV_size]; exact hin) rfl rfl hdg fun H1 e z oq => ?_
  refine kk H1 _ (hB.set (a := a) (by omega) (hp_like_si h a i.toNatClampNeg x) ?_ z oq)
  rw [hp_c_int (by exact hka)]
  show H1[a]? = some (vp_cell _ _)
  rw [e, vp_cell_i, vp_cell_i, arrV_store]
  congr 2
  funext q
  by_cases hq : q = i.toNatClampNeg
  · subst hq
    simp [updV, hp_si, u2_row, va_up]
  · simp [updV, hp_si, u2_row, va_up, hq]
theorem hp_zast (cx : CallFix p m c cc nL s args tbG own) (hB : hp_B D cA A s h H locs) (hka : h.1 a = 14) {i x : Int32} (hi : ix i (h.2.1 a) = true) (hx : zb x = true) (hdg : decode cc pc = .ok (.bastore, 1))
    (kk : ∀ (H1 : Heap) (locs1 : List Loc), hp_B D cA A s (hp_si h a i.toNatClampNeg x) H1 locs1 → W p l e R s m args below meth c H1 locs1 cells slots Q (F0 m (pc + 1) ls rest)) : W p l e R s m args below meth c H locs cells slots Q (F0 m pc ls (.int x :: .int i :: .ref a :: rest)) := by
  have hin := ix_in hi
  have hP := hp_one hB (by omega) (hp_c_bool hka)
  refine W.zast cx.1 cx.2.1 (hP 0 _ rfl) ((hB.2.1.2 1 _ rfl).1 (h.2.1 a) (fun j => .int (h.2.2.1 a j))) (fun q => by cases q) (by show ¬ (i < 0 ∨ (arrV _ _ _).slots.size ≤ _); rw [arrV_size]; exact hin) rfl rfl hdg fun H1 e z oq => ?_
  refine kk H1 _ (hB.set (a := a) (by omega) (hp_like_si h a i.toNatClampNeg x) ?_ z oq)
  rw [hp_c_bool (by exact hka)]
  show H1[a]? = some (vp_cell _ _)
  rw [e, vp_cell_i, vp_cell_i, arrV_store]
  congr 2
  funext q
  by_cases hq : q = i.toNatClampNeg
  · subst hq
    have hz := zb_nar hx
    simp [updV, hp_si, u2_row, va_up, hz]
  · simp [updV, hp_si, u2_row, va_up, hq]
theorem hp_aast (cx : CallFix p m c cc nL s args tbG own) (hB : hp_B D cA A s h H locs) (kd ci : Nat) {r : vw_C} (hkd : 15 ≤ kd) (ht : (hp_ty cA)[kd - 13]? = some (cA kd, .object r.1)) (hc : vwCl[ci]? = some r) (hci : ci < 12) (hka : h.1 a = kd) {v : Nat} (hkv : h.1 v = ci + 1) {i : Int32} (hi : ix i (h.2.1 a) = true) (hdg : decode cc pc = .ok (.aastore, 1))
    (kk : ∀ (H1 : Heap) (locs1 : List Loc), hp_B D cA A s (hp_sr h a i.toNatClampNeg (some v)) H1 locs1 → W p l e R s m args below meth c H1 locs1 cells slots Q (F0 m (pc + 1) ls rest)) : W p l e R s m args below meth c H locs cells slots Q (F0 m pc ls (.ref v :: .int i :: .ref a :: rest)) := by
  have hin := ix_in hi
  have hlt : i.toNatClampNeg < h.2.1 a := Nat.not_le.mp fun q => hin (Or.inr q)
  have h0 : ¬ i < 0 := fun q => hin (Or.inl q)
  have hK := hB.2.1
  have hPv := hp_one hB (by omega) (hp_c_obj hkv hci)
  subst hka
  have hP := hp_one hB (by omega) (hp_c_ref hkd)
  obtain ⟨r', hr', cellV, g1, g2, g3, -⟩ := hPv 0 _ rfl
  have hcls := (hK.1 ci r hc).2
  obtain ⟨kA, comp, k1, k2, k3, -⟩ := (hK.2 _ _ ht).2
  have hcomp : comp = D.1 ci := Option.some.inj (k3.symm.trans hcls.1)
  subst hcomp
  obtain ⟨kC, hkC, -⟩ := hcls.2
  refine W.aast cx.1 cx.2.1 (hP 0 _ rfl) (fun q h => by cases h) (fun h => by cases h) k1 k2 rfl hkC ⟨h0, by show _ < (arrV _ _ _).slots.size; rw [arrV_size]; exact hlt⟩ g1 (fun q h => by rw [g3] at h; cases h) (by rw [g2]; exact hkC) (by rw [g2]; exact va_assign hcls) rfl rfl hdg fun H1 e z oq => ?_
  refine kk H1 _ (hB.set (a := a) (by omega) (hp_like_sr h a i.toNatClampNeg (some v)) ?_ z oq)
  rw [hp_c_ref (show 15 ≤ (hp_sr h a i.toNatClampNeg (some v)).1 a from hkd)]
  show H1[a]? = some (vp_cell _ _)
  rw [e, vp_cell_q, vp_cell_q, arrV_store]
  congr 2
  funext q
  by_cases hq : q = i.toNatClampNeg
  · subst hq
    simp [updV, hp_sr, u2_row, va_up, va_rf]
  · simp [updV, hp_sr, u2_row, va_up, hq]
theorem hp_new (cx : CallFix p m c cc nL s args tbG own) (hB : hp_B D cA A s h H locs) {C : String} {T : u_T} {N ci index : Nat} (ty : Nat → FieldType) (hty : ∀ k, k < N → parseFieldDescriptor (T k).2.2.1 = some (ty k)) (hc : vwCl[ci]? = some (C, T, N)) (hin : ∀ w ∈ u_ws C T N, w ∈ lw_tbl) (hci : ci < 12) (hN : hp_nf.getD ci 0 = N) (hdv : ∀ k, k < N → defaultValue (ty k) = if hp_isr ci k = true then .null else .int 0) (hcl : Cond.classLink own index C ∈ lw_tbl) (hinst : Cond.instantiable C N ∈ lw_tbl) (hini : Cond.initialized C ∈ lw_tbl) {q : Nat} (hq : q = h.2.2.2.2) (hcells : cells + 1 ≤ R.cells) (hslots : slots + N ≤ R.slots) (hdg : decode cc pc = .ok (.new index, 3))
    (kk : ∀ (H1 : Heap), hp_B D cA A s (hp_nw h (ci + 1) 0) H1 locs → W p l e R s m args below meth c H1 locs (cells + 1) (slots + N) Q (F0 m (pc + 3) ls (.ref q :: rest))) : W p l e R s m args below meth c H locs cells slots Q (F0 m pc ls rest) := by
  obtain ⟨hx, hb, hml, hown, hts⟩ := cx
  subst hq
  have hKn := hB.2.1.1 ci _ hc
  refine W.newcK hx hb hown (hts _ (tb_in hcl rfl)) (hts _ (tb_in hinst rfl)) (hts _ (tb_in hini rfl)) rfl hdg hcells hslots hKn.2.1 hB.1.1 fun H1 kC hkC e1 z1 o1 => ?_
  refine kk H1 (hp_new_B hB ?_ (by rw [z1, hB.1.1]) (by rw [hB.1.1]; exact o1))
  rw [hp_c_obj (by exact va_up_self _ _ _) hci]
  refine ⟨_, hc, (u_born ty hts (u_inG hin) hKn hkC e1 hty).to (fun k hk => ?_)⟩
  simp only [vp_V, List.getD, hp_fs_get (show k < hp_nf.getD ci 0 by omega), Option.getD_some, hp_new_fv]
  exact hdv k hk
theorem hp_newa (cx : CallFix p m c cc nL s args tbG own) (hB : hp_B D cA A s h H locs) (kd : Nat) {atype : ArrayType} {ty : FieldType} (hty : newarray.typeOf atype = ty) (hkd : kd = 13 ∨ kd = 14) (ht : (hp_ty cA)[kd - 13]? = some (cA kd, ty)) (hra : va_RA s (cA kd) ty → s.vm.findClass ("[" ++ ty.toString) = some (cA kd)) (hdv : defaultValue ty = .int 0) (harr : Cond.arrayClass ty ∈ lw_tbl) {n : Int32} {N' : Nat} {q : Nat} (hq : q = h.2.2.2.2) (hn : ¬ n < 0) (hN : n.toNatClampNeg = N') (hbytes : N' * componentBytes ty ≤ 536870912) (hcells : cells + 1 ≤ R.cells) (hslots : slots + N' ≤ R.slots) (hdg : decode cc pc = .ok (.newarray atype, 2))
    (kk : ∀ (H1 : Heap), hp_B D cA A s (hp_nw h kd N') H1 locs → W p l e R s m args below meth c H1 locs (cells + 1) (slots + N') Q (F0 m (pc + 2) ls (.ref q :: rest))) : W p l e R s m args below meth c H locs cells slots Q (F0 m pc ls (.int n :: rest)) := by
  obtain ⟨hx, hb, hml, hown, hts⟩ := cx
  subst hq
  subst hty
  refine va_newaK hx hb (hts _ (tb_in harr rfl)) rfl hdg rfl hn hN hbytes hcells hslots hB.1.1 fun H1 cA' e1 z1 o1 hAr hNm => ?_
  have he : cA' = cA kd := Option.some.inj (hNm.symm.trans (hra (hB.2.1.2 _ _ ht).2))
  subst he
  refine kk H1 (hp_new_B hB ?_ (by rw [z1, hB.1.1]) (by rw [hB.1.1]; exact o1))
  have hk : (hp_nw h kd N').1 h.2.2.2.2 = kd := va_up_self _ _ _
  have hv : (hp_nw h kd N').2.2.1 h.2.2.2.2 = fun _ => 0 := va_up_self _ _ _
  have hl : (hp_nw h kd N').2.1 h.2.2.2.2 = N' := va_up_self _ _ _
  have hcc : hp_c cA (hp_nw h kd N') h.2.2.2.2 = .inl (cA kd, N', .inl (fun _ => 0)) := by
    rcases hkd with rfl | rfl
    · rw [hp_c_int hk, hl, hv]
    · rw [hp_c_bool hk, hl, hv]
  rw [hcc]
  show H1[h.2.2.2.2]? = some (vp_cell _ _)
  rw [e1, vp_cell_i, hdv]
theorem hp_newq (cx : CallFix p m c cc nL s args tbG own) (hB : hp_B D cA A s h H locs) (kd : Nat) {C : String} {index : Nat} (hkd : 15 ≤ kd) (ht : (hp_ty cA)[kd - 13]? = some (cA kd, .object C)) (hclink : Cond.classLink own index C ∈ lw_tbl) (hover : hp_N s → va_AO C s) {n : Int32} {N' : Nat} {q : Nat} (hq : q = h.2.2.2.2) (hn : ¬ n < 0) (hN : n.toNatClampNeg = N') (hbytes : N' * 4 ≤ 536870912) (hcells : cells + 1 ≤ R.cells) (hslots : slots + N' ≤ R.slots) (hdg : decode cc pc = .ok (.anewarray index, 3))
    (kk : ∀ (H1 : Heap), hp_B D cA A s (hp_nw h kd N') H1 locs → W p l e R s m args below meth c H1 locs (cells + 1) (slots + N') Q (F0 m (pc + 3) ls (.ref q :: rest))) : W p l e R s m args below meth c H locs cells slots Q (F0 m pc ls (.int n :: rest)) := by
  obtain ⟨hx, hb, hml, hown, hts⟩ := cx
  subst hq
  subst hN
  refine W.anew hx hb hown (hts _ (tb_in hclink rfl)) (va_AO.use (hover hB.2.2.1)) rfl hdg rfl hn hbytes hcells hslots fun cA' kA comp f1 f2 f3 f4 => ?_
  rw [hB.1.1]
  have hz0 := hB.1.1
  obtain ⟨kA', comp', g1, g2, g3, g4⟩ := (hB.2.1.2 _ _ ht).2
  have he : cA' = cA kd := Option.some.inj (f1.symm.trans g4)
  subst he
  refine kk _ (hp_new_B hB ?_ (by rw [Array.size_push]) (fun q hq => by rw [Array.getElem?_push, if_neg (Nat.ne_of_lt hq)]))
  have hk : (hp_nw h kd n.toNatClampNeg).1 h.2.2.2.2 = kd := va_up_self _ _ _
  have hv : (hp_nw h kd n.toNatClampNeg).2.2.2.1 h.2.2.2.2 = fun _ => none := va_up_self _ _ _
  have hl : (hp_nw h kd n.toNatClampNeg).2.1 h.2.2.2.2 = n.toNatClampNeg := va_up_self _ _ _
  rw [hp_c_ref (by rw [hk]; exact hkd), hk, hl, hv]
  show (H.push _)[h.2.2.2.2]? = some (vp_cell _ _)
  rw [← hz0, Array.getElem?_push_size, vp_cell_q, ← arrV_new]
  rfl
theorem hp_iret {h0 : Hp} {mc ms : Nat} {r : Int32} (cx : CallFix p m c cc nL s args tbG own) (hB : hp_B D cA (hp_A h0) s h H locs) (hr : meth.sig.returnType = some .int) (hlk : meth.locks = false) (hm : cells ≤ mc) (hs : slots ≤ ms) (hdg : decode cc pc = .ok (.ireturn, 1)) : W p l e R s m args below meth c H locs cells slots (MQ below (hp_Qi D cA h0 h r) args s mc ms (hp_A h0)) (F0 m pc ls [.int r]) :=
  W.widen hm hs (W.iret cx.1 cx.2.1 hr (fun t ht hW => ⟨⟨r, (), rfl, ⟨rfl, hB.2.2.2.1⟩, hB.U ht hW⟩, hB.2.2.2.2.2.F ht⟩) hB.2.2.2.2.2.2.2 hdg hlk)
theorem hp_zret {h0 : Hp} {mc ms : Nat} {r : Int32} (cx : CallFix p m c cc nL s args tbG own) (hB : hp_B D cA (hp_A h0) s h H locs) (hr : meth.sig.returnType = some .boolean) (hlk : meth.locks = false) (hm : cells ≤ mc) (hs : slots ≤ ms) (hz : zb r = true) (hdg : decode cc pc = .ok (.ireturn, 1)) : W p l e R s m args below meth c H locs cells slots (MQ below (hp_Qi D cA h0 h r) args s mc ms (hp_A h0)) (F0 m pc ls [.int r]) :=
  W.widen hm hs (W.zret cx.1 cx.2.1 hr (zb_nar hz) (fun t ht hW => ⟨⟨r, (), rfl, ⟨rfl, hB.2.2.2.1⟩, hB.U ht hW⟩, hB.2.2.2.2.2.F ht⟩) hB.2.2.2.2.2.2.2 hdg hlk)
theorem hp_vret {h0 : Hp} {mc ms : Nat} (cx : CallFix p m c cc nL s args tbG own) (hB : hp_B D cA (hp_A h0) s h H locs) (hr : meth.sig.returnType = none) (hlk : meth.locks = false) (hm : cells ≤ mc) (hs : slots ≤ ms) (hdg : decode cc pc = .ok (.return_, 1)) : W p l e R s m args below meth c H locs cells slots (MQ below (hp_Qv D cA h0 h) args s mc ms (hp_A h0)) (F0 m pc ls []) :=
  W.widen hm hs (W.vret cx.1 cx.2.1 hr (fun t ht hW => ⟨⟨(), rfl, hB.2.2.2.1, hB.U ht hW⟩, hB.2.2.2.2.2.F ht⟩) hB.2.2.2.2.2.2.2 hdg hlk)
theorem hp_aret {h0 : Hp} {mc ms : Nat} {r : Option Nat} {rt : FieldType} (cx : CallFix p m c cc nL s args tbG own) (hB : hp_B D cA (hp_A h0) s h H locs) (hr : meth.sig.returnType = some rt) (hrt : (∃ n, rt = .object n) ∨ ∃ t, rt = .array t) (hlk : meth.locks = false) (hm : cells ≤ mc) (hs : slots ≤ ms) (hdg : decode cc pc = .ok (.areturn, 1)) : W p l e R s m args below meth c H locs cells slots (MQ below (hp_Qr D cA h0 h r) args s mc ms (hp_A h0)) (F0 m pc ls [va_rf r]) :=
  W.widen hm hs (W.aret cx.1 cx.2.1 hr hrt (va_rf_or r) (fun t ht hW => ⟨⟨r, (), rfl, ⟨rfl, hB.2.2.2.1⟩, hB.U ht hW⟩, hB.2.2.2.2.2.F ht⟩) hB.2.2.2.2.2.2.2 hdg hlk)
theorem hp_call_A {q : Nat} (hB : hp_B D cA A s h H locs) (hq : hp_A h q) : A q := by
  rcases hq with h1 | h1
  · exact hB.2.2.2.1 q h1
  · exact hB.2.2.2.2.1 q (Nat.le_trans hB.2.2.2.2.2.1 (by rw [hB.1.1]; exact h1))
theorem hp_back {h' : Hp} {t : State} {H1 : Heap} {locs1 : List Loc} (hB : hp_B D cA A s h H locs) (ht : t.heap = H1) (hd : ∀ a, h'.1 a ≠ 0 → hp_A h a) (hU : hp_U D cA h' t) (hS : va_S A s.heap H1 locs1) : hp_B D cA A s h' H1 locs1 :=
  ⟨by rw [← ht]; exact hU.1, hB.2.1, hB.2.2.1, fun b hb => hp_call_A hB (hd b hb), hB.2.2.2.2.1, hS⟩
variable {st0 : List Value} {av : Array Value} {mc ms : Nat} {h' : Hp}
theorem hp_cI {r : Int32} (hr : va_Run p l e R s m args below meth c H locs cells slots mc ms (F0 m pc ls st0) rest (hp_Qi D cA h h' r av) (hp_A h)) (hB : hp_B D cA A s h H locs)
    (kk : ∀ (H1 : Heap) (locs1 : List Loc), hp_B D cA A s h' H1 locs1 → W p l e R s m args below meth c H1 locs1 (cells + mc) (slots + ms) Q (F0 m (pc + 3) ls (.int r :: rest))) : W p l e R s m args below meth c H locs cells slots Q (F0 m pc ls st0) :=
  va_calli hr hB.2.2.2.2.2 (fun _ _ hq => hp_call_A hB hq) (fun _ hq => hp_call_A hB hq) (fun r' _ t H1 locs1 ht _ hw hU _ _ hS => by
    obtain ⟨rfl, hd⟩ := hw
    exact kk H1 locs1 (hp_back hB ht hd hU hS))
theorem hp_cV (hr : va_Run p l e R s m args below meth c H locs cells slots mc ms (F0 m pc ls st0) rest (hp_Qv D cA h h' av) (hp_A h)) (hB : hp_B D cA A s h H locs)
    (kk : ∀ (H1 : Heap) (locs1 : List Loc), hp_B D cA A s h' H1 locs1 → W p l e R s m args below meth c H1 locs1 (cells + mc) (slots + ms) Q (F0 m (pc + 3) ls rest)) : W p l e R s m args below meth c H locs cells slots Q (F0 m pc ls st0) :=
  va_callv hr hB.2.2.2.2.2 (fun _ _ hq => hp_call_A hB hq) (fun _ hq => hp_call_A hB hq) (fun _ t H1 locs1 ht _ hd hU _ _ hS => kk H1 locs1 (hp_back hB ht hd hU hS))
theorem hp_cR {r : Option Nat} (hr : va_Run p l e R s m args below meth c H locs cells slots mc ms (F0 m pc ls st0) rest (hp_Qr D cA h h' r av) (hp_A h)) (hB : hp_B D cA A s h H locs)
    (kk : ∀ (H1 : Heap) (locs1 : List Loc), hp_B D cA A s h' H1 locs1 → W p l e R s m args below meth c H1 locs1 (cells + mc) (slots + ms) Q (F0 m (pc + 3) ls (va_rf r :: rest))) : W p l e R s m args below meth c H locs cells slots Q (F0 m pc ls st0) :=
  va_callq hr hB.2.2.2.2.2 (fun _ _ hq => hp_call_A hB hq) (fun _ hq => hp_call_A hB hq) (fun r' _ t H1 locs1 ht _ hw hU _ _ hS => by
    obtain ⟨rfl, hd⟩ := hw
    exact kk H1 locs1 (hp_back hB ht hd hU hS))
variable {y : MethodName} {bytes : ByteArray} {maxL n index ci : Nat} {ret : Option FieldType} {rm : Room} {Qc : Array Value → State → Outcome → State → Prop} {b : Nat} {As : List Value}
theorem tb_GI {y : MethodName} {bytes : ByteArray} {maxL : Nat} {ret : Option FieldType} (hcd : Cond.code y bytes maxL ret ∈ lw_tbl) : GoodIn tbG (Cond.code y bytes maxL ret :: tbG) := fun w hw => by
  rcases List.mem_cons.mp hw with rfl | hw
  · exact ⟨tb_in hcd rfl, good_of_word rfl⟩
  · exact ⟨hw, good_of_word (tb_good hw)⟩
abbrev hp_M (l : Launch) (y : MethodName) (bytes : ByteArray) (maxL : Nat) (ret : Option FieldType) (rm : Room) (D : va_G) (cA : Nat → ClassId) (h : Hp) (av : List Value) (Qc : Array Value → State → Outcome → State → Prop) : Prop :=
  Met l y (Cond.code y bytes maxL ret :: tbG) rm (va_Pc av (hp_U D cA h)) Qc rm.cells rm.slots (hp_A h)
theorem hp_runV (cx : CallFix p m c cc nL s args tbG own) (hB : hp_B D cA A s h H locs) (hM : hp_M l y bytes maxL ret rm D cA h (.ref b :: As) Qc) {r : vw_C} (hc : vwCl[ci]? = some r) (hci : ci < 12) (hkb : h.1 b = ci + 1) (hcd : Cond.code y bytes maxL ret ∈ lw_tbl) (hl : Cond.methodLink own index y ∈ lw_tbl) (hi : Cond.instanceMethod y ∈ lw_tbl) (hse : Cond.selects r.1 y y ∈ lw_tbl) (hini : Cond.initialized r.1 ∈ lw_tbl)
    (hd : y.cls = r.1 ∧ y.cls ≠ "java/lang/invoke/MethodHandle" ∧ y.cls ≠ "java/lang/invoke/VarHandle" ∧ (parseMethodDescriptor y.desc).map (fun d => d.parameters.length) = some n) (hR : rm.frames + 1 ≤ R.frames ∧ 8 + (maxL + 11) + rm.locals ≤ R.locals) (hn : As.length = n) (hls : ls.size = nL) (hst : st0 = As.reverse ++ .ref b :: rest) (hW : (rest.map fun v => v.category).sum ≤ 8) (hf : cells + rm.cells ≤ R.cells ∧ slots + rm.slots ≤ R.slots) (hdg : decode cc pc = .ok (.invokevirtual index, 3)) :
    va_Run p l e R s m args below meth c H locs cells slots rm.cells rm.slots (F0 m pc ls st0) rest (Qc (Value.ref b :: As).toArray) (hp_A h) := by
  have hG : GoodIn tbG (wsV own index r.1 y (Cond.code y bytes maxL ret :: tbG)) := fun w hw => by
    unfold wsV at hw
    rcases List.mem_append.mp hw with hw | hw
    · simp only [List.mem_cons, List.not_mem_nil, or_false] at hw
      rcases hw with rfl | rfl | rfl | rfl
      · exact ⟨tb_in hl rfl, good_of_word rfl⟩
      · exact ⟨tb_in hi rfl, good_of_word rfl⟩
      · exact ⟨tb_in hse rfl, good_of_word rfl⟩
      · exact ⟨tb_in hini rfl, good_of_word rfl⟩
    · exact tb_GI hcd w hw
  exact va_runV (As := As) (rest := rest) cx hM (cwV n cx.2.2.2.2 hG rfl rfl rfl hd hR) ⟨hp_blind, va_recv hB.2.1 (hp_one hB (by omega) (hp_c_obj hkb hci)) hc (q0 := 0) rfl, fun U hU hW => ⟨rfl, hB.U hU hW⟩⟩ rfl hn hls hst (lv_room hW) hdg hf
theorem hp_runS (cx : CallFix p m c cc nL s args tbG own) (hB : hp_B D cA A s h H locs) (hM : hp_M l y bytes maxL ret rm D cA h As Qc) (hcd : Cond.code y bytes maxL ret ∈ lw_tbl) (hl : Cond.methodLink own index y ∈ lw_tbl) (hi : Cond.static y ∈ lw_tbl) (hini : Cond.initialized y.cls ∈ lw_tbl)
    (hd : y.cls ≠ "java/lang/invoke/MethodHandle" ∧ y.cls ≠ "java/lang/invoke/VarHandle" ∧ (parseMethodDescriptor y.desc).map (fun d => d.parameters.length) = some n) (hR : rm.frames + 1 ≤ R.frames ∧ 8 + (maxL + 11) + rm.locals ≤ R.locals) (hn : As.length = n) (hls : ls.size = nL) (hst : st0 = As.reverse ++ rest) (hW : (rest.map fun v => v.category).sum ≤ 8) (hf : cells + rm.cells ≤ R.cells ∧ slots + rm.slots ≤ R.slots) (hdg : decode cc pc = .ok (.invokestatic index, 3)) :
    va_Run p l e R s m args below meth c H locs cells slots rm.cells rm.slots (F0 m pc ls st0) rest (Qc As.toArray) (hp_A h) :=
  va_runS (As := As) (rest := rest) cx hM ⟨callB_of n cx.2.2.2.2 (tb_GI hcd) rfl rfl rfl (cx.2.2.2.2 _ (tb_in hini rfl)) (cx.2.2.2.2 _ (tb_in hl rfl)) hd hR, cx.2.2.2.2 _ (tb_in hi rfl)⟩ ⟨hp_blind, fun U hU hW => ⟨rfl, hB.U hU hW⟩⟩ rfl hn hls hst (lv_room hW) hdg hf
theorem hp_runSN {host : String} (cx : CallFix p m c cc nL s args tbG own) (hB : hp_B D cA A s h H locs) (hM : hp_M l y bytes maxL ret rm D cA h As Qc) (hcd : Cond.code y bytes maxL ret ∈ lw_tbl) (hl : Cond.methodLinkNest own index y host ∈ hp_NW) (hi : Cond.static y ∈ lw_tbl) (hini : Cond.initialized y.cls ∈ lw_tbl)
    (hd : y.cls ≠ "java/lang/invoke/MethodHandle" ∧ y.cls ≠ "java/lang/invoke/VarHandle" ∧ (parseMethodDescriptor y.desc).map (fun d => d.parameters.length) = some n) (hR : rm.frames + 1 ≤ R.frames ∧ 8 + (maxL + 11) + rm.locals ≤ R.locals) (hn : As.length = n) (hls : ls.size = nL) (hst : st0 = As.reverse ++ rest) (hW : (rest.map fun v => v.category).sum ≤ 8) (hf : cells + rm.cells ≤ R.cells ∧ slots + rm.slots ≤ R.slots) (hdg : decode cc pc = .ok (.invokestatic index, 3)) :
    va_Run p l e R s m args below meth c H locs cells slots rm.cells rm.slots (F0 m pc ls st0) rest (Qc As.toArray) (hp_A h) :=
  va_runSN (As := As) (rest := rest) cx hM ⟨va_cnB n cx.2.2.2.2 (tb_GI hcd) rfl rfl rfl (hB.2.2.1.1 _ hl) (cx.2.2.2.2 _ (tb_in hini rfl)) hd hR, cx.2.2.2.2 _ (tb_in hi rfl), trivial⟩ ⟨hp_blind, fun U hU hW => ⟨rfl, hB.U hU hW⟩⟩ rfl hn hls hst (lv_room hW) hdg hf
theorem hp_runI (cx : CallFix p m c cc nL s args tbG own) (hB : hp_B D cA A s h H locs) (hM : hp_M l y bytes maxL none rm D cA h (.ref b :: As) Qc) (hcd : Cond.code y bytes maxL none ∈ lw_tbl) (hl : Cond.methodLink own index y ∈ lw_tbl) (hi : Cond.instanceMethod y ∈ lw_tbl) (hini : Cond.initialized y.cls ∈ lw_tbl) (hy1 : y.name = "<init>")
    (hd : y.cls ≠ "java/lang/invoke/MethodHandle" ∧ y.cls ≠ "java/lang/invoke/VarHandle" ∧ (parseMethodDescriptor y.desc).map (fun d => d.parameters.length) = some n) (hR : rm.frames + 1 ≤ R.frames ∧ 8 + (maxL + 11) + rm.locals ≤ R.locals) (hn : As.length = n) (hls : ls.size = nL) (hst : st0 = As.reverse ++ .ref b :: rest) (hW : (rest.map fun v => v.category).sum ≤ 8) (hf : cells + rm.cells ≤ R.cells ∧ slots + rm.slots ≤ R.slots) (hdg : decode cc pc = .ok (.invokespecial index, 3)) :
    va_Run p l e R s m args below meth c H locs cells slots rm.cells rm.slots (F0 m pc ls st0) rest (Qc (Value.ref b :: As).toArray) (hp_A h) :=
  va_runI (As := As) (rest := rest) cx hM (cwI n cx.2.2.2.2 (tb_GI hcd) rfl rfl rfl (cx.2.2.2.2 _ (tb_in hini rfl)) (cx.2.2.2.2 _ (tb_in hl rfl)) (cx.2.2.2.2 _ (tb_in hi rfl)) hy1 hd hR) ⟨hp_blind, fun U hU hW => ⟨rfl, hB.U hU hW⟩⟩ rfl hn hls hst (lv_room hW) hdg hf
theorem hp_runIN {host : String} (cx : CallFix p m c cc nL s args tbG own) (hB : hp_B D cA A s h H locs) (hM : hp_M l y bytes maxL none rm D cA h (.ref b :: As) Qc) (hcd : Cond.code y bytes maxL none ∈ lw_tbl) (hl : Cond.methodLinkNest own index y host ∈ hp_NW) (hi : Cond.instanceMethod y ∈ lw_tbl) (hini : Cond.initialized y.cls ∈ lw_tbl) (hy1 : y.name = "<init>")
    (hd : y.cls ≠ "java/lang/invoke/MethodHandle" ∧ y.cls ≠ "java/lang/invoke/VarHandle" ∧ (parseMethodDescriptor y.desc).map (fun d => d.parameters.length) = some n) (hR : rm.frames + 1 ≤ R.frames ∧ 8 + (maxL + 11) + rm.locals ≤ R.locals) (hn : As.length = n) (hls : ls.size = nL) (hst : st0 = As.reverse ++ .ref b :: rest) (hW : (rest.map fun v => v.category).sum ≤ 8) (hf : cells + rm.cells ≤ R.cells ∧ slots + rm.slots ≤ R.slots) (hdg : decode cc pc = .ok (.invokespecial index, 3)) :
    va_Run p l e R s m args below meth c H locs cells slots rm.cells rm.slots (F0 m pc ls st0) rest (Qc (Value.ref b :: As).toArray) (hp_A h) :=
  va_runIN (As := As) (rest := rest) cx hM ⟨va_cnB n cx.2.2.2.2 (tb_GI hcd) rfl rfl rfl (hB.2.2.1.1 _ hl) (cx.2.2.2.2 _ (tb_in hini rfl)) hd hR, hy1, cx.2.2.2.2 _ (tb_in hi rfl)⟩ ⟨hp_blind, fun U hU hW => ⟨rfl, hB.U hU hW⟩⟩ rfl hn hls hst (lv_room hW) hdg hf
theorem lv_ren {x y : Int32} (hxy : y = x) (kk : W p l e R s m args below meth c H locs cells slots Q (F0 m pc ls (.int y :: rest))) : W p l e R s m args below meth c H locs cells slots Q (F0 m pc ls (.int x :: rest)) := by
  rw [← hxy]
  exact kk
theorem hp_cI0 {r : Int32} (hr : va_Run p l e R s m args below meth c H locs cells slots mc ms (F0 m pc ls st0) rest (hp_Qi D cA h h' r av) (hp_A h)) (hmc : mc = 0) (hms : ms = 0) (hB : hp_B D cA A s h H locs)
    (kk : ∀ (H1 : Heap) (locs1 : List Loc), hp_B D cA A s h' H1 locs1 → W p l e R s m args below meth c H1 locs1 cells slots Q (F0 m (pc + 3) ls (.int r :: rest))) : W p l e R s m args below meth c H locs cells slots Q (F0 m pc ls st0) := by
  subst hmc; subst hms
  exact hp_cI hr hB kk
theorem hp_cV0 (hr : va_Run p l e R s m args below meth c H locs cells slots mc ms (F0 m pc ls st0) rest (hp_Qv D cA h h' av) (hp_A h)) (hmc : mc = 0) (hms : ms = 0) (hB : hp_B D cA A s h H locs)
    (kk : ∀ (H1 : Heap) (locs1 : List Loc), hp_B D cA A s h' H1 locs1 → W p l e R s m args below meth c H1 locs1 cells slots Q (F0 m (pc + 3) ls rest)) : W p l e R s m args below meth c H locs cells slots Q (F0 m pc ls st0) := by
  subst hmc; subst hms
  exact hp_cV hr hB kk
theorem hp_cR0 {r : Option Nat} (hr : va_Run p l e R s m args below meth c H locs cells slots mc ms (F0 m pc ls st0) rest (hp_Qr D cA h h' r av) (hp_A h)) (hmc : mc = 0) (hms : ms = 0) (hB : hp_B D cA A s h H locs)
    (kk : ∀ (H1 : Heap) (locs1 : List Loc), hp_B D cA A s h' H1 locs1 → W p l e R s m args below meth c H1 locs1 cells slots Q (F0 m (pc + 3) ls (va_rf r :: rest))) : W p l e R s m args below meth c H locs cells slots Q (F0 m pc ls st0) := by
  subst hmc; subst hms
  exact hp_cR hr hB kk
theorem lq_astore_n (hexec : p.tables.exec = Jvm.exec) (hb : c.code = cc) {k : Fin 4} {i nL : Nat} {o : Option Nat} {lv lv' : List (Nat × Value)} (hdg : decode cc pc = .ok (.astore_n k, 1)) (hi : (k : Nat) = i) (hh : lv_has ls nL lv) (hn : i < nL) (hl : (i, va_rf o) :: lv.filter (fun q => !(q.1 == i) && !(q.1 + 1 == i && q.2.category == 2)) = lv')
    (kk : ∀ ls' : Array Slot, lv_has ls' nL lv' → W p l e R s m args below meth c H locs cells slots Q (F0 m (pc + 1) ls' rest)) : W p l e R s m args below meth c H locs cells slots Q (F0 m pc ls (va_rf o :: rest)) := by
  cases o with
  | none => exact lv_astore_nN hexec hb hdg hi hh hn hl kk
  | some a => exact lv_astore_n hexec hb hdg hi hh hn hl kk
theorem lq_astore (hexec : p.tables.exec = Jvm.exec) (hb : c.code = cc) {i nL : Nat} {o : Option Nat} {lv lv' : List (Nat × Value)} (hdg : decode cc pc = .ok (.astore i, 2)) (hh : lv_has ls nL lv) (hn : i < nL) (hl : (i, va_rf o) :: lv.filter (fun q => !(q.1 == i) && !(q.1 + 1 == i && q.2.category == 2)) = lv')
    (kk : ∀ ls' : Array Slot, lv_has ls' nL lv' → W p l e R s m args below meth c H locs cells slots Q (F0 m (pc + 2) ls' rest)) : W p l e R s m args below meth c H locs cells slots Q (F0 m pc ls (va_rf o :: rest)) := by
  cases o with
  | none => exact lv_astoreN hexec hb hdg hh hn hl kk
  | some a => exact lv_astore hexec hb hdg hh hn hl kk
/-- null and references by one name -/
theorem lq_aload_n (hexec : p.tables.exec = Jvm.exec) (hb : c.code = cc) {k : Fin 4} {i : Nat} {o : Option Nat} (hdg : decode cc pc = .ok (.aload_n k, 1)) (hi : (k : Nat) = i) (hl : ls[i]? = some (.val (va_rf o))) (kk : W p l e R s m args below meth c H locs cells slots Q (F0 m (pc + 1) ls (va_rf o :: rest))) : W p l e R s m args below meth c H locs cells slots Q (F0 m pc ls rest) := by
  cases o with
  | none => exact lv_aload_nN hexec hb hdg hi hl kk
  | some a => exact lv_aload_n hexec hb hdg hi hl kk
theorem lq_aload (hexec : p.tables.exec = Jvm.exec) (hb : c.code = cc) {i : Nat} {o : Option Nat} (hdg : decode cc pc = .ok (.aload i, 2)) (hl : ls[i]? = some (.val (va_rf o))) (kk : W p l e R s m args below meth c H locs cells slots Q (F0 m (pc + 2) ls (va_rf o :: rest))) : W p l e R s m args below meth c H locs cells slots Q (F0 m pc ls rest) := by
  cases o with
  | none => exact lv_aloadN hexec hb hdg hl kk
  | some a => exact lv_aload hexec hb hdg hl kk
theorem lq_ifnull (hexec : p.tables.exec = Jvm.exec) (hb : c.code = cc) {o : Option Nat} {off : Int} {tgt : Nat} (hdg : decode cc pc = .ok (.ifnull off, 3)) (ht : (pc : Int) + off = (tgt : Int)) (k1 : o = none → W p l e R s m args below meth c H locs cells slots Q (F0 m tgt ls rest)) (k2 : ∀ a, o = some a → W p l e R s m args below meth c H locs cells slots Q (F0 m (pc + 3) ls rest)) : W p l e R s m args below meth c H locs cells slots Q (F0 m pc ls (va_rf o :: rest)) := by
  cases o with
  | none => exact lv_ifnullN hexec hb hdg ht (k1 rfl)
  | some a => exact lv_ifnull hexec hb hdg (k2 a rfl)
theorem lq_ifnonnull (hexec : p.tables.exec = Jvm.exec) (hb : c.code = cc) {o : Option Nat} {off : Int} {tgt : Nat} (hdg : decode cc pc = .ok (.ifnonnull off, 3)) (ht : (pc : Int) + off = (tgt : Int)) (k1 : o = none → W p l e R s m args below meth c H locs cells slots Q (F0 m (pc + 3) ls rest)) (k2 : ∀ a, o = some a → W p l e R s m args below meth c H locs cells slots Q (F0 m tgt ls rest)) : W p l e R s m args below meth c H locs cells slots Q (F0 m pc ls (va_rf o :: rest)) := by
  cases o with
  | none => exact lv_ifnonnullN hexec hb hdg (k1 rfl)
  | some a => exact lv_ifnonnull hexec hb hdg ht (k2 a rfl)
end HPS
end
section
theorem qw_1 : Cond.initialized "SpokenMenus" ∈ lw_tbl := List.mem_of_getElem? (i := 42) (by decide +kernel)
theorem qw_2 : Cond.initialized "SpokenMenus$House" ∈ lw_tbl := List.mem_of_getElem? (i := 43) (by decide +kernel)
theorem qw_3 : Cond.initialized "SpokenMenus$Ways" ∈ lw_tbl := List.mem_of_getElem? (i := 44) (by decide +kernel)
theorem qw_4 : Cond.initialized "SpokenMenus$Traps" ∈ lw_tbl := List.mem_of_getElem? (i := 45) (by decide +kernel)
theorem qw_5 : Cond.initialized "SpokenMenus$Groups" ∈ lw_tbl := List.mem_of_getElem? (i := 46) (by decide +kernel)
theorem qw_6 : Cond.initialized "SpokenMenus$Ordering" ∈ lw_tbl := List.mem_of_getElem? (i := 47) (by decide +kernel)
theorem qw_7 : Cond.initialized "SpokenMenus$Planner" ∈ lw_tbl := List.mem_of_getElem? (i := 48) (by decide +kernel)
theorem qw_8 : Cond.initialized "java/util/Arrays" ∈ lw_tbl := List.mem_of_getElem? (i := 49) (by decide +kernel)
theorem qw_9 : Cond.initialized "SpokenMenus$Walk" ∈ lw_tbl := List.mem_of_getElem? (i := 50) (by decide +kernel)
theorem qw_10 : Cond.initialized "SpokenMenusModel" ∈ lw_tbl := List.mem_of_getElem? (i := 51) (by decide +kernel)
theorem qw_11 : Cond.initialized "SpokenMenus$Place" ∈ lw_tbl := List.mem_of_getElem? (i := 52) (by decide +kernel)
theorem qw_12 : Cond.initialized "SpokenMenus$Line" ∈ lw_tbl := List.mem_of_getElem? (i := 53) (by decide +kernel)
theorem qw_13 : Cond.initialized "SpokenMenus$Caller" ∈ lw_tbl := List.mem_of_getElem? (i := 54) (by decide +kernel)
theorem qw_14 : Cond.initialized "java/lang/Math" ∈ lw_tbl := List.mem_of_getElem? (i := 55) (by decide +kernel)
theorem qw_15 : Cond.initialized "java/lang/Integer" ∈ lw_tbl := List.mem_of_getElem? (i := 56) (by decide +kernel)
theorem qw_22 : Cond.instanceMethod ({ cls := "java/lang/Object", name := "<init>", desc := "()V" } : MethodName) ∈ lw_tbl := List.mem_of_getElem? (i := 63) (by decide +kernel)
theorem qw_23 : Cond.code ({ cls := "java/lang/Object", name := "<init>", desc := "()V" } : MethodName) object_method_1_code 1 none ∈ lw_tbl := List.mem_of_getElem? (i := 64) (by decide +kernel)
theorem qw_29 : Cond.methodLink "SpokenMenus$House" 3 ({ cls := "java/lang/Object", name := "<init>", desc := "()V" } : MethodName) ∈ lw_tbl := List.mem_of_getElem? (i := 70) (by decide +kernel)
theorem qw_30 : Cond.classLink "SpokenMenus$House" 9 "SpokenMenus$Place" ∈ lw_tbl := List.mem_of_getElem? (i := 71) (by decide +kernel)
theorem qw_32 : Cond.fieldLink "SpokenMenus$House" 11 "SpokenMenus$House" "places" "[LSpokenMenus$Place;" ∈ lw_tbl := List.mem_of_getElem? (i := 73) (by decide +kernel)
theorem qw_33 : Cond.fieldLink "SpokenMenus$Ways" 28 "SpokenMenus$House" "places" "[LSpokenMenus$Place;" ∈ lw_tbl := List.mem_of_getElem? (i := 74) (by decide +kernel)
theorem qw_34 : Cond.fieldLink "SpokenMenus$Traps" 28 "SpokenMenus$House" "places" "[LSpokenMenus$Place;" ∈ lw_tbl := List.mem_of_getElem? (i := 75) (by decide +kernel)
theorem qw_35 : Cond.fieldLink "SpokenMenus$House" 17 "SpokenMenus$House" "size" "I" ∈ lw_tbl := List.mem_of_getElem? (i := 76) (by decide +kernel)
theorem qw_36 : Cond.fieldLink "SpokenMenus$Ways" 22 "SpokenMenus$House" "size" "I" ∈ lw_tbl := List.mem_of_getElem? (i := 77) (by decide +kernel)
theorem qw_37 : Cond.fieldLink "SpokenMenus$Traps" 22 "SpokenMenus$House" "size" "I" ∈ lw_tbl := List.mem_of_getElem? (i := 78) (by decide +kernel)
theorem qw_38 : Cond.fieldLink "SpokenMenus" 160 "SpokenMenus$House" "size" "I" ∈ lw_tbl := List.mem_of_getElem? (i := 79) (by decide +kernel)
theorem qw_49 : Cond.methodLink "SpokenMenus$Ways" 3 ({ cls := "java/lang/Object", name := "<init>", desc := "()V" } : MethodName) ∈ lw_tbl := List.mem_of_getElem? (i := 90) (by decide +kernel)
theorem qw_50 : Cond.fieldLink "SpokenMenus$Ways" 9 "SpokenMenus$Ways" "ticks" "[I" ∈ lw_tbl := List.mem_of_getElem? (i := 91) (by decide +kernel)
theorem qw_54 : Cond.arrayClass FieldType.int ∈ lw_tbl := List.mem_of_getElem? (i := 95) (by decide +kernel)
theorem qw_60 : Cond.methodLink "SpokenMenus$Traps" 3 ({ cls := "java/lang/Object", name := "<init>", desc := "()V" } : MethodName) ∈ lw_tbl := List.mem_of_getElem? (i := 101) (by decide +kernel)
theorem qw_61 : Cond.fieldLink "SpokenMenus$Traps" 9 "SpokenMenus$Traps" "reached" "[Z" ∈ lw_tbl := List.mem_of_getElem? (i := 102) (by decide +kernel)
theorem qw_62 : Cond.fieldLink "SpokenMenus$Traps" 15 "SpokenMenus$Traps" "leadsToDesk" "[Z" ∈ lw_tbl := List.mem_of_getElem? (i := 103) (by decide +kernel)
theorem qw_68 : Cond.arrayClass FieldType.boolean ∈ lw_tbl := List.mem_of_getElem? (i := 109) (by decide +kernel)
theorem qw_74 : Cond.methodLink "SpokenMenus$Groups" 3 ({ cls := "java/lang/Object", name := "<init>", desc := "()V" } : MethodName) ∈ lw_tbl := List.mem_of_getElem? (i := 115) (by decide +kernel)
theorem qw_75 : Cond.classLink "SpokenMenus$Groups" 9 "SpokenMenus$Caller" ∈ lw_tbl := List.mem_of_getElem? (i := 116) (by decide +kernel)
theorem qw_77 : Cond.fieldLink "SpokenMenus$Groups" 11 "SpokenMenus$Groups" "callers" "[LSpokenMenus$Caller;" ∈ lw_tbl := List.mem_of_getElem? (i := 118) (by decide +kernel)
theorem qw_78 : Cond.fieldLink "SpokenMenus" 223 "SpokenMenus$Groups" "callers" "[LSpokenMenus$Caller;" ∈ lw_tbl := List.mem_of_getElem? (i := 119) (by decide +kernel)
theorem qw_79 : Cond.fieldLink "SpokenMenus$Groups" 17 "SpokenMenus$Groups" "many" "[I" ∈ lw_tbl := List.mem_of_getElem? (i := 120) (by decide +kernel)
theorem qw_80 : Cond.fieldLink "SpokenMenus" 227 "SpokenMenus$Groups" "many" "[I" ∈ lw_tbl := List.mem_of_getElem? (i := 121) (by decide +kernel)
theorem qw_81 : Cond.fieldLink "SpokenMenus$Groups" 21 "SpokenMenus$Groups" "size" "I" ∈ lw_tbl := List.mem_of_getElem? (i := 122) (by decide +kernel)
theorem qw_82 : Cond.fieldLink "SpokenMenus" 219 "SpokenMenus$Groups" "size" "I" ∈ lw_tbl := List.mem_of_getElem? (i := 123) (by decide +kernel)
theorem qw_95 : Cond.methodLink "SpokenMenus$Ordering" 3 ({ cls := "java/lang/Object", name := "<init>", desc := "()V" } : MethodName) ∈ lw_tbl := List.mem_of_getElem? (i := 136) (by decide +kernel)
theorem qw_96 : Cond.classLink "SpokenMenus$Ordering" 18 "SpokenMenus$Line" ∈ lw_tbl := List.mem_of_getElem? (i := 137) (by decide +kernel)
theorem qw_98 : Cond.fieldLink "SpokenMenus$Ordering" 9 "SpokenMenus$Ordering" "callers" "[I" ∈ lw_tbl := List.mem_of_getElem? (i := 139) (by decide +kernel)
theorem qw_99 : Cond.fieldLink "SpokenMenus$Ordering" 15 "SpokenMenus$Ordering" "sorted" "[I" ∈ lw_tbl := List.mem_of_getElem? (i := 140) (by decide +kernel)
theorem qw_100 : Cond.fieldLink "SpokenMenus" 244 "SpokenMenus$Ordering" "sorted" "[I" ∈ lw_tbl := List.mem_of_getElem? (i := 141) (by decide +kernel)
theorem qw_101 : Cond.fieldLink "SpokenMenus$Ordering" 20 "SpokenMenus$Ordering" "stood" "[LSpokenMenus$Line;" ∈ lw_tbl := List.mem_of_getElem? (i := 142) (by decide +kernel)
theorem qw_114 : Cond.methodLink "SpokenMenus$Planner" 3 ({ cls := "java/lang/Object", name := "<init>", desc := "()V" } : MethodName) ∈ lw_tbl := List.mem_of_getElem? (i := 155) (by decide +kernel)
theorem qw_118 : Cond.static ({ cls := "java/util/Arrays", name := "fill", desc := "([II)V" } : MethodName) ∈ lw_tbl := List.mem_of_getElem? (i := 159) (by decide +kernel)
theorem qw_119 : Cond.code ({ cls := "java/util/Arrays", name := "fill", desc := "([II)V" } : MethodName) prog_16_method_103_code 4 none ∈ lw_tbl := List.mem_of_getElem? (i := 160) (by decide +kernel)
theorem qw_120 : Cond.constant "SpokenMenus$Planner" 51 (500000000 : Int32) ∈ lw_tbl := List.mem_of_getElem? (i := 161) (by decide +kernel)
theorem qw_121 : Cond.fieldLink "SpokenMenus$Planner" 9 "SpokenMenus$Planner" "wishTicks" "[I" ∈ lw_tbl := List.mem_of_getElem? (i := 162) (by decide +kernel)
theorem qw_122 : Cond.fieldLink "SpokenMenus" 250 "SpokenMenus$Planner" "wishTicks" "[I" ∈ lw_tbl := List.mem_of_getElem? (i := 163) (by decide +kernel)
theorem qw_123 : Cond.fieldLink "SpokenMenus$Planner" 15 "SpokenMenus$Planner" "wishCallers" "[I" ∈ lw_tbl := List.mem_of_getElem? (i := 164) (by decide +kernel)
theorem qw_124 : Cond.fieldLink "SpokenMenus" 253 "SpokenMenus$Planner" "wishCallers" "[I" ∈ lw_tbl := List.mem_of_getElem? (i := 165) (by decide +kernel)
theorem qw_125 : Cond.fieldLink "SpokenMenus$Planner" 18 "SpokenMenus$Planner" "all" "I" ∈ lw_tbl := List.mem_of_getElem? (i := 166) (by decide +kernel)
theorem qw_126 : Cond.fieldLink "SpokenMenus" 260 "SpokenMenus$Planner" "all" "I" ∈ lw_tbl := List.mem_of_getElem? (i := 167) (by decide +kernel)
theorem qw_127 : Cond.fieldLink "SpokenMenus$Planner" 22 "SpokenMenus$Planner" "breadth" "I" ∈ lw_tbl := List.mem_of_getElem? (i := 168) (by decide +kernel)
theorem qw_128 : Cond.fieldLink "SpokenMenus$Planner" 25 "SpokenMenus$Planner" "groupTicks" "I" ∈ lw_tbl := List.mem_of_getElem? (i := 169) (by decide +kernel)
theorem qw_129 : Cond.fieldLink "SpokenMenus$Planner" 28 "SpokenMenus$Planner" "callersOf" "[I" ∈ lw_tbl := List.mem_of_getElem? (i := 170) (by decide +kernel)
theorem qw_130 : Cond.fieldLink "SpokenMenus$Planner" 31 "SpokenMenus$Planner" "menuCost" "[I" ∈ lw_tbl := List.mem_of_getElem? (i := 171) (by decide +kernel)
theorem qw_131 : Cond.fieldLink "SpokenMenus$Planner" 34 "SpokenMenus$Planner" "menuFirst" "[I" ∈ lw_tbl := List.mem_of_getElem? (i := 172) (by decide +kernel)
theorem qw_132 : Cond.fieldLink "SpokenMenus$Planner" 39 "SpokenMenus$Planner" "restCost" "[[I" ∈ lw_tbl := List.mem_of_getElem? (i := 173) (by decide +kernel)
theorem qw_133 : Cond.fieldLink "SpokenMenus$Planner" 42 "SpokenMenus$Planner" "restFirst" "[[I" ∈ lw_tbl := List.mem_of_getElem? (i := 174) (by decide +kernel)
theorem qw_160 : Cond.methodLink "SpokenMenus$Walk" 3 ({ cls := "java/lang/Object", name := "<init>", desc := "()V" } : MethodName) ∈ lw_tbl := List.mem_of_getElem? (i := 201) (by decide +kernel)
theorem qw_161 : Cond.fieldLink "SpokenMenus$Walk" 9 "SpokenMenus$Walk" "was" "Z" ∈ lw_tbl := List.mem_of_getElem? (i := 202) (by decide +kernel)
theorem qw_162 : Cond.fieldLink "SpokenMenus" 173 "SpokenMenus$Walk" "was" "Z" ∈ lw_tbl := List.mem_of_getElem? (i := 203) (by decide +kernel)
theorem qw_163 : Cond.fieldLink "SpokenMenus$Walk" 15 "SpokenMenus$Walk" "end" "I" ∈ lw_tbl := List.mem_of_getElem? (i := 204) (by decide +kernel)
theorem qw_164 : Cond.fieldLink "SpokenMenus" 170 "SpokenMenus$Walk" "end" "I" ∈ lw_tbl := List.mem_of_getElem? (i := 205) (by decide +kernel)
theorem qw_165 : Cond.fieldLink "SpokenMenus$Walk" 19 "SpokenMenus$Walk" "ticks" "I" ∈ lw_tbl := List.mem_of_getElem? (i := 206) (by decide +kernel)
theorem qw_166 : Cond.fieldLink "SpokenMenus" 177 "SpokenMenus$Walk" "ticks" "I" ∈ lw_tbl := List.mem_of_getElem? (i := 207) (by decide +kernel)
theorem qw_167 : Cond.fieldLink "SpokenMenus$Walk" 22 "SpokenMenus$Walk" "last" "I" ∈ lw_tbl := List.mem_of_getElem? (i := 208) (by decide +kernel)
theorem qw_168 : Cond.fieldLink "SpokenMenus" 178 "SpokenMenus$Walk" "last" "I" ∈ lw_tbl := List.mem_of_getElem? (i := 209) (by decide +kernel)
theorem qw_169 : Cond.fieldLink "SpokenMenus$Walk" 25 "SpokenMenus$Walk" "comings" "I" ∈ lw_tbl := List.mem_of_getElem? (i := 210) (by decide +kernel)
theorem qw_170 : Cond.fieldLink "SpokenMenus" 181 "SpokenMenus$Walk" "comings" "I" ∈ lw_tbl := List.mem_of_getElem? (i := 211) (by decide +kernel)
theorem qw_171 : Cond.fieldLink "SpokenMenus$Walk" 28 "SpokenMenus$Walk" "presses" "I" ∈ lw_tbl := List.mem_of_getElem? (i := 212) (by decide +kernel)
theorem qw_172 : Cond.fieldLink "SpokenMenus" 184 "SpokenMenus$Walk" "presses" "I" ∈ lw_tbl := List.mem_of_getElem? (i := 213) (by decide +kernel)
theorem qw_173 : Cond.fieldLink "SpokenMenus$Walk" 31 "SpokenMenus$Walk" "cameTo" "[I" ∈ lw_tbl := List.mem_of_getElem? (i := 214) (by decide +kernel)
theorem qw_174 : Cond.fieldLink "SpokenMenus" 187 "SpokenMenus$Walk" "cameTo" "[I" ∈ lw_tbl := List.mem_of_getElem? (i := 215) (by decide +kernel)
theorem qw_175 : Cond.fieldLink "SpokenMenus$Walk" 35 "SpokenMenus$Walk" "keys" "[I" ∈ lw_tbl := List.mem_of_getElem? (i := 216) (by decide +kernel)
theorem qw_176 : Cond.fieldLink "SpokenMenus" 195 "SpokenMenus$Walk" "keys" "[I" ∈ lw_tbl := List.mem_of_getElem? (i := 217) (by decide +kernel)
theorem qw_177 : Cond.fieldLink "SpokenMenus$Walk" 38 "SpokenMenus$Walk" "seen" "[Z" ∈ lw_tbl := List.mem_of_getElem? (i := 218) (by decide +kernel)
theorem qw_178 : Cond.fieldLink "SpokenMenus$Walk" 42 "SpokenMenus$Walk" "clocksOnEnd" "I" ∈ lw_tbl := List.mem_of_getElem? (i := 219) (by decide +kernel)
theorem qw_200 : Cond.fieldLink "SpokenMenus" 10 "SpokenMenus" "house" "LSpokenMenus$House;" ∈ lw_tbl := List.mem_of_getElem? (i := 241) (by decide +kernel)
theorem qw_201 : Cond.fieldLink "SpokenMenus" 19 "SpokenMenus" "ways" "LSpokenMenus$Ways;" ∈ lw_tbl := List.mem_of_getElem? (i := 242) (by decide +kernel)
theorem qw_202 : Cond.fieldLink "SpokenMenus" 26 "SpokenMenus" "traps" "LSpokenMenus$Traps;" ∈ lw_tbl := List.mem_of_getElem? (i := 243) (by decide +kernel)
theorem qw_203 : Cond.fieldLink "SpokenMenus" 33 "SpokenMenus" "groups" "LSpokenMenus$Groups;" ∈ lw_tbl := List.mem_of_getElem? (i := 244) (by decide +kernel)
theorem qw_204 : Cond.fieldLink "SpokenMenus" 40 "SpokenMenus" "ordering" "LSpokenMenus$Ordering;" ∈ lw_tbl := List.mem_of_getElem? (i := 245) (by decide +kernel)
theorem qw_205 : Cond.fieldLink "SpokenMenus" 47 "SpokenMenus" "planner" "LSpokenMenus$Planner;" ∈ lw_tbl := List.mem_of_getElem? (i := 246) (by decide +kernel)
theorem qw_206 : Cond.fieldLink "SpokenMenus" 54 "SpokenMenus" "latest" "LSpokenMenus$Walk;" ∈ lw_tbl := List.mem_of_getElem? (i := 247) (by decide +kernel)
theorem qw_207 : Cond.fieldLink "SpokenMenus" 58 "SpokenMenus" "trial" "LSpokenMenus$Walk;" ∈ lw_tbl := List.mem_of_getElem? (i := 248) (by decide +kernel)
theorem qw_229 : Cond.methodLink "SpokenMenus" 61 ({ cls := "SpokenMenus", name := "within", desc := "(III)Z" } : MethodName) ∈ lw_tbl := List.mem_of_getElem? (i := 270) (by decide +kernel)
theorem qw_230 : Cond.static ({ cls := "SpokenMenus", name := "within", desc := "(III)Z" } : MethodName) ∈ lw_tbl := List.mem_of_getElem? (i := 271) (by decide +kernel)
theorem qw_231 : Cond.code ({ cls := "SpokenMenus", name := "within", desc := "(III)Z" } : MethodName) prog_1_method_28_code 3 (Option.some FieldType.boolean) ∈ lw_tbl := List.mem_of_getElem? (i := 272) (by decide +kernel)
theorem qw_232 : Cond.methodLink "SpokenMenus" 65 ({ cls := "SpokenMenus", name := "isNext", desc := "(I)Z" } : MethodName) ∈ lw_tbl := List.mem_of_getElem? (i := 273) (by decide +kernel)
theorem qw_233 : Cond.static ({ cls := "SpokenMenus", name := "isNext", desc := "(I)Z" } : MethodName) ∈ lw_tbl := List.mem_of_getElem? (i := 274) (by decide +kernel)
theorem qw_234 : Cond.code ({ cls := "SpokenMenus", name := "isNext", desc := "(I)Z" } : MethodName) prog_1_method_29_code 1 (Option.some FieldType.boolean) ∈ lw_tbl := List.mem_of_getElem? (i := 275) (by decide +kernel)
theorem qw_235 : Cond.methodLink "SpokenMenus" 69 ({ cls := "SpokenMenus$House", name := "isFull", desc := "()Z" } : MethodName) ∈ lw_tbl := List.mem_of_getElem? (i := 276) (by decide +kernel)
theorem qw_236 : Cond.instanceMethod ({ cls := "SpokenMenus$House", name := "isFull", desc := "()Z" } : MethodName) ∈ lw_tbl := List.mem_of_getElem? (i := 277) (by decide +kernel)
theorem qw_237 : Cond.selects "SpokenMenus$House" ({ cls := "SpokenMenus$House", name := "isFull", desc := "()Z" } : MethodName) ({ cls := "SpokenMenus$House", name := "isFull", desc := "()Z" } : MethodName) ∈ lw_tbl := List.mem_of_getElem? (i := 278) (by decide +kernel)
theorem qw_238 : Cond.code ({ cls := "SpokenMenus$House", name := "isFull", desc := "()Z" } : MethodName) prog_4_method_2_code 1 (Option.some FieldType.boolean) ∈ lw_tbl := List.mem_of_getElem? (i := 279) (by decide +kernel)
theorem qw_239 : Cond.classLink "SpokenMenus" 73 "SpokenMenus$Place" ∈ lw_tbl := List.mem_of_getElem? (i := 280) (by decide +kernel)
theorem qw_240 : Cond.instantiable "SpokenMenus$Place" 11 ∈ lw_tbl := List.mem_of_getElem? (i := 281) (by decide +kernel)
theorem qw_241 : Cond.methodLink "SpokenMenus" 75 ({ cls := "SpokenMenus$Place", name := "<init>", desc := "(IIIII)V" } : MethodName) ∈ lw_tbl := List.mem_of_getElem? (i := 282) (by decide +kernel)
theorem qw_242 : Cond.instanceMethod ({ cls := "SpokenMenus$Place", name := "<init>", desc := "(IIIII)V" } : MethodName) ∈ lw_tbl := List.mem_of_getElem? (i := 283) (by decide +kernel)
theorem qw_243 : Cond.code ({ cls := "SpokenMenus$Place", name := "<init>", desc := "(IIIII)V" } : MethodName) prog_7_method_1_code 6 none ∈ lw_tbl := List.mem_of_getElem? (i := 284) (by decide +kernel)
theorem qw_244 : Cond.methodLink "SpokenMenus$Place" 3 ({ cls := "java/lang/Object", name := "<init>", desc := "()V" } : MethodName) ∈ lw_tbl := List.mem_of_getElem? (i := 285) (by decide +kernel)
theorem qw_245 : Cond.classLink "SpokenMenus$Place" 42 "SpokenMenus$Line" ∈ lw_tbl := List.mem_of_getElem? (i := 286) (by decide +kernel)
theorem qw_246 : Cond.fieldLink "SpokenMenus$Place" 27 "SpokenMenus$Place" "kind" "I" ∈ lw_tbl := List.mem_of_getElem? (i := 287) (by decide +kernel)
theorem qw_247 : Cond.fieldLink "SpokenMenus$Walk" 74 "SpokenMenus$Place" "kind" "I" ∈ lw_tbl := List.mem_of_getElem? (i := 288) (by decide +kernel)
theorem qw_248 : Cond.fieldLink "SpokenMenus$Ways" 52 "SpokenMenus$Place" "kind" "I" ∈ lw_tbl := List.mem_of_getElem? (i := 289) (by decide +kernel)
theorem qw_249 : Cond.fieldLink "SpokenMenus$House" 29 "SpokenMenus$Place" "kind" "I" ∈ lw_tbl := List.mem_of_getElem? (i := 290) (by decide +kernel)
theorem qw_250 : Cond.fieldLink "SpokenMenus$Traps" 40 "SpokenMenus$Place" "kind" "I" ∈ lw_tbl := List.mem_of_getElem? (i := 291) (by decide +kernel)
theorem qw_251 : Cond.fieldLink "SpokenMenus" 142 "SpokenMenus$Place" "kind" "I" ∈ lw_tbl := List.mem_of_getElem? (i := 292) (by decide +kernel)
theorem qw_252 : Cond.fieldLink "SpokenMenus$Place" 30 "SpokenMenus$Place" "ticks" "I" ∈ lw_tbl := List.mem_of_getElem? (i := 293) (by decide +kernel)
theorem qw_253 : Cond.fieldLink "SpokenMenus$Ways" 68 "SpokenMenus$Place" "ticks" "I" ∈ lw_tbl := List.mem_of_getElem? (i := 294) (by decide +kernel)
theorem qw_254 : Cond.fieldLink "SpokenMenus$Walk" 94 "SpokenMenus$Place" "ticks" "I" ∈ lw_tbl := List.mem_of_getElem? (i := 295) (by decide +kernel)
theorem qw_255 : Cond.fieldLink "SpokenMenus" 145 "SpokenMenus$Place" "ticks" "I" ∈ lw_tbl := List.mem_of_getElem? (i := 296) (by decide +kernel)
theorem qw_256 : Cond.fieldLink "SpokenMenus$Place" 33 "SpokenMenus$Place" "served" "I" ∈ lw_tbl := List.mem_of_getElem? (i := 297) (by decide +kernel)
theorem qw_257 : Cond.fieldLink "SpokenMenus" 150 "SpokenMenus$Place" "served" "I" ∈ lw_tbl := List.mem_of_getElem? (i := 298) (by decide +kernel)
theorem qw_258 : Cond.fieldLink "SpokenMenus$Place" 36 "SpokenMenus$Place" "next" "I" ∈ lw_tbl := List.mem_of_getElem? (i := 299) (by decide +kernel)
theorem qw_259 : Cond.fieldLink "SpokenMenus$Ways" 70 "SpokenMenus$Place" "next" "I" ∈ lw_tbl := List.mem_of_getElem? (i := 300) (by decide +kernel)
theorem qw_260 : Cond.fieldLink "SpokenMenus$Walk" 110 "SpokenMenus$Place" "next" "I" ∈ lw_tbl := List.mem_of_getElem? (i := 301) (by decide +kernel)
theorem qw_261 : Cond.fieldLink "SpokenMenus" 146 "SpokenMenus$Place" "next" "I" ∈ lw_tbl := List.mem_of_getElem? (i := 302) (by decide +kernel)
theorem qw_262 : Cond.fieldLink "SpokenMenus$Place" 39 "SpokenMenus$Place" "other" "I" ∈ lw_tbl := List.mem_of_getElem? (i := 303) (by decide +kernel)
theorem qw_263 : Cond.fieldLink "SpokenMenus" 147 "SpokenMenus$Place" "other" "I" ∈ lw_tbl := List.mem_of_getElem? (i := 304) (by decide +kernel)
theorem qw_264 : Cond.fieldLink "SpokenMenus$Place" 44 "SpokenMenus$Place" "lines" "[LSpokenMenus$Line;" ∈ lw_tbl := List.mem_of_getElem? (i := 305) (by decide +kernel)
theorem qw_265 : Cond.fieldLink "SpokenMenus$Ways" 43 "SpokenMenus$Place" "lines" "[LSpokenMenus$Line;" ∈ lw_tbl := List.mem_of_getElem? (i := 306) (by decide +kernel)
theorem qw_266 : Cond.fieldLink "SpokenMenus$Ordering" 40 "SpokenMenus$Place" "lines" "[LSpokenMenus$Line;" ∈ lw_tbl := List.mem_of_getElem? (i := 307) (by decide +kernel)
theorem qw_267 : Cond.fieldLink "SpokenMenus$House" 36 "SpokenMenus$Place" "lines" "[LSpokenMenus$Line;" ∈ lw_tbl := List.mem_of_getElem? (i := 308) (by decide +kernel)
theorem qw_268 : Cond.fieldLink "SpokenMenus$Walk" 146 "SpokenMenus$Place" "lines" "[LSpokenMenus$Line;" ∈ lw_tbl := List.mem_of_getElem? (i := 309) (by decide +kernel)
theorem qw_269 : Cond.fieldLink "SpokenMenus" 135 "SpokenMenus$Place" "lines" "[LSpokenMenus$Line;" ∈ lw_tbl := List.mem_of_getElem? (i := 310) (by decide +kernel)
theorem qw_270 : Cond.fieldLink "SpokenMenus$Place" 9 "SpokenMenus$Place" "size" "I" ∈ lw_tbl := List.mem_of_getElem? (i := 311) (by decide +kernel)
theorem qw_271 : Cond.fieldLink "SpokenMenus" 94 "SpokenMenus$Place" "size" "I" ∈ lw_tbl := List.mem_of_getElem? (i := 312) (by decide +kernel)
theorem qw_272 : Cond.fieldLink "SpokenMenus$Ordering" 30 "SpokenMenus$Place" "size" "I" ∈ lw_tbl := List.mem_of_getElem? (i := 313) (by decide +kernel)
theorem qw_273 : Cond.fieldLink "SpokenMenus$Ways" 40 "SpokenMenus$Place" "size" "I" ∈ lw_tbl := List.mem_of_getElem? (i := 314) (by decide +kernel)
theorem qw_274 : Cond.fieldLink "SpokenMenus$House" 35 "SpokenMenus$Place" "size" "I" ∈ lw_tbl := List.mem_of_getElem? (i := 315) (by decide +kernel)
theorem qw_275 : Cond.fieldLink "SpokenMenus$Walk" 136 "SpokenMenus$Place" "size" "I" ∈ lw_tbl := List.mem_of_getElem? (i := 316) (by decide +kernel)
theorem qw_276 : Cond.fieldLink "SpokenMenus$Place" 15 "SpokenMenus$Place" "repeats" "I" ∈ lw_tbl := List.mem_of_getElem? (i := 317) (by decide +kernel)
theorem qw_277 : Cond.fieldLink "SpokenMenus" 78 "SpokenMenus$Place" "repeats" "I" ∈ lw_tbl := List.mem_of_getElem? (i := 318) (by decide +kernel)
theorem qw_278 : Cond.fieldLink "SpokenMenus$Place" 18 "SpokenMenus$Place" "figures" "I" ∈ lw_tbl := List.mem_of_getElem? (i := 319) (by decide +kernel)
theorem qw_279 : Cond.fieldLink "SpokenMenus" 115 "SpokenMenus$Place" "figures" "I" ∈ lw_tbl := List.mem_of_getElem? (i := 320) (by decide +kernel)
theorem qw_280 : Cond.fieldLink "SpokenMenus$Place" 21 "SpokenMenus$Place" "from" "I" ∈ lw_tbl := List.mem_of_getElem? (i := 321) (by decide +kernel)
theorem qw_281 : Cond.fieldLink "SpokenMenus" 109 "SpokenMenus$Place" "from" "I" ∈ lw_tbl := List.mem_of_getElem? (i := 322) (by decide +kernel)
theorem qw_282 : Cond.fieldLink "SpokenMenus$Place" 24 "SpokenMenus$Place" "to" "I" ∈ lw_tbl := List.mem_of_getElem? (i := 323) (by decide +kernel)
theorem qw_283 : Cond.fieldLink "SpokenMenus" 112 "SpokenMenus$Place" "to" "I" ∈ lw_tbl := List.mem_of_getElem? (i := 324) (by decide +kernel)
theorem qw_307 : Cond.methodLink "SpokenMenus" 82 ({ cls := "SpokenMenus$House", name := "add", desc := "(LSpokenMenus$Place;)I" } : MethodName) ∈ lw_tbl := List.mem_of_getElem? (i := 348) (by decide +kernel)
theorem qw_308 : Cond.instanceMethod ({ cls := "SpokenMenus$House", name := "add", desc := "(LSpokenMenus$Place;)I" } : MethodName) ∈ lw_tbl := List.mem_of_getElem? (i := 349) (by decide +kernel)
theorem qw_309 : Cond.selects "SpokenMenus$House" ({ cls := "SpokenMenus$House", name := "add", desc := "(LSpokenMenus$Place;)I" } : MethodName) ({ cls := "SpokenMenus$House", name := "add", desc := "(LSpokenMenus$Place;)I" } : MethodName) ∈ lw_tbl := List.mem_of_getElem? (i := 350) (by decide +kernel)
theorem qw_310 : Cond.code ({ cls := "SpokenMenus$House", name := "add", desc := "(LSpokenMenus$Place;)I" } : MethodName) prog_4_method_3_code 2 (Option.some FieldType.int) ∈ lw_tbl := List.mem_of_getElem? (i := 351) (by decide +kernel)
theorem qw_311 : Cond.methodLink "SpokenMenus$House" 21 ({ cls := "SpokenMenus$House", name := "isFull", desc := "()Z" } : MethodName) ∈ lw_tbl := List.mem_of_getElem? (i := 352) (by decide +kernel)
theorem qw_316 : Cond.methodLink "SpokenMenus" 86 ({ cls := "SpokenMenus$House", name := "menuAt", desc := "(I)LSpokenMenus$Place;" } : MethodName) ∈ lw_tbl := List.mem_of_getElem? (i := 357) (by decide +kernel)
theorem qw_317 : Cond.instanceMethod ({ cls := "SpokenMenus$House", name := "menuAt", desc := "(I)LSpokenMenus$Place;" } : MethodName) ∈ lw_tbl := List.mem_of_getElem? (i := 358) (by decide +kernel)
theorem qw_318 : Cond.selects "SpokenMenus$House" ({ cls := "SpokenMenus$House", name := "menuAt", desc := "(I)LSpokenMenus$Place;" } : MethodName) ({ cls := "SpokenMenus$House", name := "menuAt", desc := "(I)LSpokenMenus$Place;" } : MethodName) ∈ lw_tbl := List.mem_of_getElem? (i := 359) (by decide +kernel)
theorem qw_319 : Cond.code ({ cls := "SpokenMenus$House", name := "menuAt", desc := "(I)LSpokenMenus$Place;" } : MethodName) prog_4_method_5_code 3 (Option.some (FieldType.object "SpokenMenus$Place")) ∈ lw_tbl := List.mem_of_getElem? (i := 360) (by decide +kernel)
theorem qw_320 : Cond.methodLink "SpokenMenus$House" 25 ({ cls := "SpokenMenus$House", name := "at", desc := "(I)LSpokenMenus$Place;" } : MethodName) ∈ lw_tbl := List.mem_of_getElem? (i := 361) (by decide +kernel)
theorem qw_321 : Cond.instanceMethod ({ cls := "SpokenMenus$House", name := "at", desc := "(I)LSpokenMenus$Place;" } : MethodName) ∈ lw_tbl := List.mem_of_getElem? (i := 362) (by decide +kernel)
theorem qw_322 : Cond.selects "SpokenMenus$House" ({ cls := "SpokenMenus$House", name := "at", desc := "(I)LSpokenMenus$Place;" } : MethodName) ({ cls := "SpokenMenus$House", name := "at", desc := "(I)LSpokenMenus$Place;" } : MethodName) ∈ lw_tbl := List.mem_of_getElem? (i := 363) (by decide +kernel)
theorem qw_323 : Cond.code ({ cls := "SpokenMenus$House", name := "at", desc := "(I)LSpokenMenus$Place;" } : MethodName) prog_4_method_4_code 2 (Option.some (FieldType.object "SpokenMenus$Place")) ∈ lw_tbl := List.mem_of_getElem? (i := 364) (by decide +kernel)
theorem qw_324 : Cond.constant "SpokenMenus" 90 (65535 : Int32) ∈ lw_tbl := List.mem_of_getElem? (i := 365) (by decide +kernel)
theorem qw_325 : Cond.methodLink "SpokenMenus" 91 ({ cls := "SpokenMenus$Place", name := "hasKey", desc := "(I)Z" } : MethodName) ∈ lw_tbl := List.mem_of_getElem? (i := 366) (by decide +kernel)
theorem qw_326 : Cond.instanceMethod ({ cls := "SpokenMenus$Place", name := "hasKey", desc := "(I)Z" } : MethodName) ∈ lw_tbl := List.mem_of_getElem? (i := 367) (by decide +kernel)
theorem qw_327 : Cond.selects "SpokenMenus$Place" ({ cls := "SpokenMenus$Place", name := "hasKey", desc := "(I)Z" } : MethodName) ({ cls := "SpokenMenus$Place", name := "hasKey", desc := "(I)Z" } : MethodName) ∈ lw_tbl := List.mem_of_getElem? (i := 368) (by decide +kernel)
theorem qw_328 : Cond.code ({ cls := "SpokenMenus$Place", name := "hasKey", desc := "(I)Z" } : MethodName) prog_7_method_3_code 3 (Option.some FieldType.boolean) ∈ lw_tbl := List.mem_of_getElem? (i := 369) (by decide +kernel)
theorem qw_329 : Cond.classLink "SpokenMenus" 97 "SpokenMenus$Line" ∈ lw_tbl := List.mem_of_getElem? (i := 370) (by decide +kernel)
theorem qw_330 : Cond.instantiable "SpokenMenus$Line" 4 ∈ lw_tbl := List.mem_of_getElem? (i := 371) (by decide +kernel)
theorem qw_331 : Cond.methodLink "SpokenMenus" 99 ({ cls := "SpokenMenus$Line", name := "<init>", desc := "(IIII)V" } : MethodName) ∈ lw_tbl := List.mem_of_getElem? (i := 372) (by decide +kernel)
theorem qw_332 : Cond.instanceMethod ({ cls := "SpokenMenus$Line", name := "<init>", desc := "(IIII)V" } : MethodName) ∈ lw_tbl := List.mem_of_getElem? (i := 373) (by decide +kernel)
theorem qw_333 : Cond.code ({ cls := "SpokenMenus$Line", name := "<init>", desc := "(IIII)V" } : MethodName) prog_5_method_1_code 5 none ∈ lw_tbl := List.mem_of_getElem? (i := 374) (by decide +kernel)
theorem qw_334 : Cond.methodLink "SpokenMenus$Line" 1 ({ cls := "java/lang/Object", name := "<init>", desc := "()V" } : MethodName) ∈ lw_tbl := List.mem_of_getElem? (i := 375) (by decide +kernel)
theorem qw_335 : Cond.fieldLink "SpokenMenus$Line" 7 "SpokenMenus$Line" "ticks" "I" ∈ lw_tbl := List.mem_of_getElem? (i := 376) (by decide +kernel)
theorem qw_336 : Cond.fieldLink "SpokenMenus$Place" 55 "SpokenMenus$Line" "ticks" "I" ∈ lw_tbl := List.mem_of_getElem? (i := 377) (by decide +kernel)
theorem qw_337 : Cond.fieldLink "SpokenMenus$Ordering" 43 "SpokenMenus$Line" "ticks" "I" ∈ lw_tbl := List.mem_of_getElem? (i := 378) (by decide +kernel)
theorem qw_338 : Cond.fieldLink "SpokenMenus" 126 "SpokenMenus$Line" "ticks" "I" ∈ lw_tbl := List.mem_of_getElem? (i := 379) (by decide +kernel)
theorem qw_339 : Cond.fieldLink "SpokenMenus$Line" 13 "SpokenMenus$Line" "key" "I" ∈ lw_tbl := List.mem_of_getElem? (i := 380) (by decide +kernel)
theorem qw_340 : Cond.fieldLink "SpokenMenus$Place" 48 "SpokenMenus$Line" "key" "I" ∈ lw_tbl := List.mem_of_getElem? (i := 381) (by decide +kernel)
theorem qw_341 : Cond.fieldLink "SpokenMenus$Walk" 150 "SpokenMenus$Line" "key" "I" ∈ lw_tbl := List.mem_of_getElem? (i := 382) (by decide +kernel)
theorem qw_342 : Cond.fieldLink "SpokenMenus" 153 "SpokenMenus$Line" "key" "I" ∈ lw_tbl := List.mem_of_getElem? (i := 383) (by decide +kernel)
theorem qw_343 : Cond.fieldLink "SpokenMenus$Line" 16 "SpokenMenus$Line" "wishes" "I" ∈ lw_tbl := List.mem_of_getElem? (i := 384) (by decide +kernel)
theorem qw_344 : Cond.fieldLink "SpokenMenus" 129 "SpokenMenus$Line" "wishes" "I" ∈ lw_tbl := List.mem_of_getElem? (i := 385) (by decide +kernel)
theorem qw_345 : Cond.fieldLink "SpokenMenus$Line" 19 "SpokenMenus$Line" "next" "I" ∈ lw_tbl := List.mem_of_getElem? (i := 386) (by decide +kernel)
theorem qw_346 : Cond.fieldLink "SpokenMenus$Ways" 47 "SpokenMenus$Line" "next" "I" ∈ lw_tbl := List.mem_of_getElem? (i := 387) (by decide +kernel)
theorem qw_347 : Cond.fieldLink "SpokenMenus" 132 "SpokenMenus$Line" "next" "I" ∈ lw_tbl := List.mem_of_getElem? (i := 388) (by decide +kernel)
theorem qw_348 : Cond.fieldLink "SpokenMenus$Walk" 158 "SpokenMenus$Line" "next" "I" ∈ lw_tbl := List.mem_of_getElem? (i := 389) (by decide +kernel)
theorem qw_349 : Cond.fieldLink "SpokenMenus$Place" 66 "SpokenMenus$Line" "next" "I" ∈ lw_tbl := List.mem_of_getElem? (i := 390) (by decide +kernel)
theorem qw_359 : Cond.methodLink "SpokenMenus" 102 ({ cls := "SpokenMenus$Place", name := "addLine", desc := "(LSpokenMenus$Line;)V" } : MethodName) ∈ lw_tbl := List.mem_of_getElem? (i := 400) (by decide +kernel)
theorem qw_360 : Cond.instanceMethod ({ cls := "SpokenMenus$Place", name := "addLine", desc := "(LSpokenMenus$Line;)V" } : MethodName) ∈ lw_tbl := List.mem_of_getElem? (i := 401) (by decide +kernel)
theorem qw_361 : Cond.selects "SpokenMenus$Place" ({ cls := "SpokenMenus$Place", name := "addLine", desc := "(LSpokenMenus$Line;)V" } : MethodName) ({ cls := "SpokenMenus$Place", name := "addLine", desc := "(LSpokenMenus$Line;)V" } : MethodName) ∈ lw_tbl := List.mem_of_getElem? (i := 402) (by decide +kernel)
theorem qw_362 : Cond.code ({ cls := "SpokenMenus$Place", name := "addLine", desc := "(LSpokenMenus$Line;)V" } : MethodName) prog_7_method_2_code 2 none ∈ lw_tbl := List.mem_of_getElem? (i := 403) (by decide +kernel)
theorem qw_375 : Cond.methodLink "SpokenMenus" 106 ({ cls := "SpokenMenus", name := "isHour", desc := "(I)Z" } : MethodName) ∈ lw_tbl := List.mem_of_getElem? (i := 416) (by decide +kernel)
theorem qw_376 : Cond.static ({ cls := "SpokenMenus", name := "isHour", desc := "(I)Z" } : MethodName) ∈ lw_tbl := List.mem_of_getElem? (i := 417) (by decide +kernel)
theorem qw_377 : Cond.code ({ cls := "SpokenMenus", name := "isHour", desc := "(I)Z" } : MethodName) prog_1_method_30_code 1 (Option.some FieldType.boolean) ∈ lw_tbl := List.mem_of_getElem? (i := 418) (by decide +kernel)
theorem qw_386 : Cond.methodLink "SpokenMenus" 118 ({ cls := "SpokenMenus$House", name := "lineAt", desc := "(II)LSpokenMenus$Line;" } : MethodName) ∈ lw_tbl := List.mem_of_getElem? (i := 427) (by decide +kernel)
theorem qw_387 : Cond.instanceMethod ({ cls := "SpokenMenus$House", name := "lineAt", desc := "(II)LSpokenMenus$Line;" } : MethodName) ∈ lw_tbl := List.mem_of_getElem? (i := 428) (by decide +kernel)
theorem qw_388 : Cond.selects "SpokenMenus$House" ({ cls := "SpokenMenus$House", name := "lineAt", desc := "(II)LSpokenMenus$Line;" } : MethodName) ({ cls := "SpokenMenus$House", name := "lineAt", desc := "(II)LSpokenMenus$Line;" } : MethodName) ∈ lw_tbl := List.mem_of_getElem? (i := 429) (by decide +kernel)
theorem qw_389 : Cond.code ({ cls := "SpokenMenus$House", name := "lineAt", desc := "(II)LSpokenMenus$Line;" } : MethodName) prog_4_method_6_code 4 (Option.some (FieldType.object "SpokenMenus$Line")) ∈ lw_tbl := List.mem_of_getElem? (i := 430) (by decide +kernel)
theorem qw_390 : Cond.methodLink "SpokenMenus$House" 32 ({ cls := "SpokenMenus$House", name := "menuAt", desc := "(I)LSpokenMenus$Place;" } : MethodName) ∈ lw_tbl := List.mem_of_getElem? (i := 431) (by decide +kernel)
theorem qw_391 : Cond.methodLink "SpokenMenus" 122 ({ cls := "SpokenMenus", name := "isLineValue", desc := "(II)Z" } : MethodName) ∈ lw_tbl := List.mem_of_getElem? (i := 432) (by decide +kernel)
theorem qw_392 : Cond.static ({ cls := "SpokenMenus", name := "isLineValue", desc := "(II)Z" } : MethodName) ∈ lw_tbl := List.mem_of_getElem? (i := 433) (by decide +kernel)
theorem qw_393 : Cond.code ({ cls := "SpokenMenus", name := "isLineValue", desc := "(II)Z" } : MethodName) prog_1_method_32_code 2 (Option.some FieldType.boolean) ∈ lw_tbl := List.mem_of_getElem? (i := 434) (by decide +kernel)
theorem qw_402 : Cond.methodLink "SpokenMenus" 139 ({ cls := "SpokenMenus$House", name := "at", desc := "(I)LSpokenMenus$Place;" } : MethodName) ∈ lw_tbl := List.mem_of_getElem? (i := 443) (by decide +kernel)
theorem qw_411 : Cond.methodLink "SpokenMenus" 156 ({ cls := "SpokenMenus", name := "isCaller", desc := "(IIIII)Z" } : MethodName) ∈ lw_tbl := List.mem_of_getElem? (i := 452) (by decide +kernel)
theorem qw_412 : Cond.static ({ cls := "SpokenMenus", name := "isCaller", desc := "(IIIII)Z" } : MethodName) ∈ lw_tbl := List.mem_of_getElem? (i := 453) (by decide +kernel)
theorem qw_413 : Cond.code ({ cls := "SpokenMenus", name := "isCaller", desc := "(IIIII)Z" } : MethodName) prog_1_method_31_code 5 (Option.some FieldType.boolean) ∈ lw_tbl := List.mem_of_getElem? (i := 454) (by decide +kernel)
theorem qw_414 : Cond.constant "SpokenMenus" 271 (99999999 : Int32) ∈ lw_tbl := List.mem_of_getElem? (i := 455) (by decide +kernel)
theorem qw_415 : Cond.classLink "SpokenMenus" 161 "SpokenMenus$Caller" ∈ lw_tbl := List.mem_of_getElem? (i := 456) (by decide +kernel)
theorem qw_416 : Cond.instantiable "SpokenMenus$Caller" 5 ∈ lw_tbl := List.mem_of_getElem? (i := 457) (by decide +kernel)
theorem qw_417 : Cond.methodLink "SpokenMenus" 163 ({ cls := "SpokenMenus$Caller", name := "<init>", desc := "(IIIIZ)V" } : MethodName) ∈ lw_tbl := List.mem_of_getElem? (i := 458) (by decide +kernel)
theorem qw_418 : Cond.instanceMethod ({ cls := "SpokenMenus$Caller", name := "<init>", desc := "(IIIIZ)V" } : MethodName) ∈ lw_tbl := List.mem_of_getElem? (i := 459) (by decide +kernel)
theorem qw_419 : Cond.code ({ cls := "SpokenMenus$Caller", name := "<init>", desc := "(IIIIZ)V" } : MethodName) prog_2_method_1_code 6 none ∈ lw_tbl := List.mem_of_getElem? (i := 460) (by decide +kernel)
theorem qw_420 : Cond.methodLink "SpokenMenus$Caller" 1 ({ cls := "java/lang/Object", name := "<init>", desc := "()V" } : MethodName) ∈ lw_tbl := List.mem_of_getElem? (i := 461) (by decide +kernel)
theorem qw_421 : Cond.fieldLink "SpokenMenus$Caller" 7 "SpokenMenus$Caller" "wish" "I" ∈ lw_tbl := List.mem_of_getElem? (i := 462) (by decide +kernel)
theorem qw_422 : Cond.fieldLink "SpokenMenus$Ways" 59 "SpokenMenus$Caller" "wish" "I" ∈ lw_tbl := List.mem_of_getElem? (i := 463) (by decide +kernel)
theorem qw_423 : Cond.fieldLink "SpokenMenus$Walk" 99 "SpokenMenus$Caller" "wish" "I" ∈ lw_tbl := List.mem_of_getElem? (i := 464) (by decide +kernel)
theorem qw_424 : Cond.fieldLink "SpokenMenus" 284 "SpokenMenus$Caller" "wish" "I" ∈ lw_tbl := List.mem_of_getElem? (i := 465) (by decide +kernel)
theorem qw_425 : Cond.fieldLink "SpokenMenus$Caller" 13 "SpokenMenus$Caller" "number" "I" ∈ lw_tbl := List.mem_of_getElem? (i := 466) (by decide +kernel)
theorem qw_426 : Cond.fieldLink "SpokenMenus$Ways" 77 "SpokenMenus$Caller" "number" "I" ∈ lw_tbl := List.mem_of_getElem? (i := 467) (by decide +kernel)
theorem qw_427 : Cond.fieldLink "SpokenMenus$Walk" 119 "SpokenMenus$Caller" "number" "I" ∈ lw_tbl := List.mem_of_getElem? (i := 468) (by decide +kernel)
theorem qw_428 : Cond.fieldLink "SpokenMenus$Caller" 16 "SpokenMenus$Caller" "patience" "I" ∈ lw_tbl := List.mem_of_getElem? (i := 469) (by decide +kernel)
theorem qw_429 : Cond.fieldLink "SpokenMenus$Walk" 159 "SpokenMenus$Caller" "patience" "I" ∈ lw_tbl := List.mem_of_getElem? (i := 470) (by decide +kernel)
theorem qw_430 : Cond.fieldLink "SpokenMenus$Caller" 19 "SpokenMenus$Caller" "hour" "I" ∈ lw_tbl := List.mem_of_getElem? (i := 471) (by decide +kernel)
theorem qw_431 : Cond.fieldLink "SpokenMenus$Ways" 71 "SpokenMenus$Caller" "hour" "I" ∈ lw_tbl := List.mem_of_getElem? (i := 472) (by decide +kernel)
theorem qw_432 : Cond.fieldLink "SpokenMenus$Walk" 113 "SpokenMenus$Caller" "hour" "I" ∈ lw_tbl := List.mem_of_getElem? (i := 473) (by decide +kernel)
theorem qw_433 : Cond.fieldLink "SpokenMenus$Caller" 22 "SpokenMenus$Caller" "knows" "Z" ∈ lw_tbl := List.mem_of_getElem? (i := 474) (by decide +kernel)
theorem qw_434 : Cond.fieldLink "SpokenMenus$Walk" 45 "SpokenMenus$Caller" "knows" "Z" ∈ lw_tbl := List.mem_of_getElem? (i := 475) (by decide +kernel)
theorem qw_435 : Cond.fieldLink "SpokenMenus" 275 "SpokenMenus$Caller" "knows" "Z" ∈ lw_tbl := List.mem_of_getElem? (i := 476) (by decide +kernel)
theorem qw_447 : Cond.methodLink "SpokenMenus" 166 ({ cls := "SpokenMenus$Walk", name := "follow", desc := "(LSpokenMenus$House;LSpokenMenus$Ways;LSpokenMenus$Caller;)V" } : MethodName) ∈ lw_tbl := List.mem_of_getElem? (i := 488) (by decide +kernel)
theorem qw_448 : Cond.instanceMethod ({ cls := "SpokenMenus$Walk", name := "follow", desc := "(LSpokenMenus$House;LSpokenMenus$Ways;LSpokenMenus$Caller;)V" } : MethodName) ∈ lw_tbl := List.mem_of_getElem? (i := 489) (by decide +kernel)
theorem qw_449 : Cond.selects "SpokenMenus$Walk" ({ cls := "SpokenMenus$Walk", name := "follow", desc := "(LSpokenMenus$House;LSpokenMenus$Ways;LSpokenMenus$Caller;)V" } : MethodName) ({ cls := "SpokenMenus$Walk", name := "follow", desc := "(LSpokenMenus$House;LSpokenMenus$Ways;LSpokenMenus$Caller;)V" } : MethodName) ∈ lw_tbl := List.mem_of_getElem? (i := 490) (by decide +kernel)
theorem qw_450 : Cond.code ({ cls := "SpokenMenus$Walk", name := "follow", desc := "(LSpokenMenus$House;LSpokenMenus$Ways;LSpokenMenus$Caller;)V" } : MethodName) prog_10_method_2_code 5 none ∈ lw_tbl := List.mem_of_getElem? (i := 491) (by decide +kernel)
theorem qw_451 : Cond.methodLink "SpokenMenus$Walk" 50 ({ cls := "SpokenMenus$Ways", name := "measure", desc := "(LSpokenMenus$House;LSpokenMenus$Caller;)V" } : MethodName) ∈ lw_tbl := List.mem_of_getElem? (i := 492) (by decide +kernel)
theorem qw_452 : Cond.instanceMethod ({ cls := "SpokenMenus$Ways", name := "measure", desc := "(LSpokenMenus$House;LSpokenMenus$Caller;)V" } : MethodName) ∈ lw_tbl := List.mem_of_getElem? (i := 493) (by decide +kernel)
theorem qw_453 : Cond.selects "SpokenMenus$Ways" ({ cls := "SpokenMenus$Ways", name := "measure", desc := "(LSpokenMenus$House;LSpokenMenus$Caller;)V" } : MethodName) ({ cls := "SpokenMenus$Ways", name := "measure", desc := "(LSpokenMenus$House;LSpokenMenus$Caller;)V" } : MethodName) ∈ lw_tbl := List.mem_of_getElem? (i := 494) (by decide +kernel)
theorem qw_454 : Cond.code ({ cls := "SpokenMenus$Ways", name := "measure", desc := "(LSpokenMenus$House;LSpokenMenus$Caller;)V" } : MethodName) prog_11_method_2_code 7 none ∈ lw_tbl := List.mem_of_getElem? (i := 495) (by decide +kernel)
theorem qw_455 : Cond.constant "SpokenMenus$Ways" 15 (1000000 : Int32) ∈ lw_tbl := List.mem_of_getElem? (i := 496) (by decide +kernel)
theorem qw_456 : Cond.methodLink "SpokenMenus$Ways" 16 ({ cls := "java/util/Arrays", name := "fill", desc := "([II)V" } : MethodName) ∈ lw_tbl := List.mem_of_getElem? (i := 497) (by decide +kernel)
theorem qw_457 : Cond.methodLink "SpokenMenus$Ways" 32 ({ cls := "SpokenMenus$Ways", name := "leastAt", desc := "(LSpokenMenus$Place;LSpokenMenus$Caller;)I" } : MethodName) ∈ lw_tbl := List.mem_of_getElem? (i := 498) (by decide +kernel)
theorem qw_459 : Cond.instanceMethod ({ cls := "SpokenMenus$Ways", name := "leastAt", desc := "(LSpokenMenus$Place;LSpokenMenus$Caller;)I" } : MethodName) ∈ lw_tbl := List.mem_of_getElem? (i := 500) (by decide +kernel)
theorem qw_460 : Cond.code ({ cls := "SpokenMenus$Ways", name := "leastAt", desc := "(LSpokenMenus$Place;LSpokenMenus$Caller;)I" } : MethodName) prog_11_method_5_code 3 (Option.some FieldType.int) ∈ lw_tbl := List.mem_of_getElem? (i := 501) (by decide +kernel)
theorem qw_461 : Cond.methodLink "SpokenMenus$Ways" 55 ({ cls := "SpokenMenus$Ways", name := "leastAtMenu", desc := "(LSpokenMenus$Place;)I" } : MethodName) ∈ lw_tbl := List.mem_of_getElem? (i := 502) (by decide +kernel)
theorem qw_463 : Cond.instanceMethod ({ cls := "SpokenMenus$Ways", name := "leastAtMenu", desc := "(LSpokenMenus$Place;)I" } : MethodName) ∈ lw_tbl := List.mem_of_getElem? (i := 504) (by decide +kernel)
theorem qw_464 : Cond.code ({ cls := "SpokenMenus$Ways", name := "leastAtMenu", desc := "(LSpokenMenus$Place;)I" } : MethodName) prog_11_method_6_code 4 (Option.some FieldType.int) ∈ lw_tbl := List.mem_of_getElem? (i := 505) (by decide +kernel)
theorem qw_465 : Cond.methodLink "SpokenMenus$Ways" 87 ({ cls := "SpokenMenus$Place", name := "ticksOfHearingAll", desc := "()I" } : MethodName) ∈ lw_tbl := List.mem_of_getElem? (i := 506) (by decide +kernel)
theorem qw_466 : Cond.instanceMethod ({ cls := "SpokenMenus$Place", name := "ticksOfHearingAll", desc := "()I" } : MethodName) ∈ lw_tbl := List.mem_of_getElem? (i := 507) (by decide +kernel)
theorem qw_467 : Cond.selects "SpokenMenus$Place" ({ cls := "SpokenMenus$Place", name := "ticksOfHearingAll", desc := "()I" } : MethodName) ({ cls := "SpokenMenus$Place", name := "ticksOfHearingAll", desc := "()I" } : MethodName) ∈ lw_tbl := List.mem_of_getElem? (i := 508) (by decide +kernel)
theorem qw_468 : Cond.code ({ cls := "SpokenMenus$Place", name := "ticksOfHearingAll", desc := "()I" } : MethodName) prog_7_method_6_code 1 (Option.some FieldType.int) ∈ lw_tbl := List.mem_of_getElem? (i := 509) (by decide +kernel)
theorem qw_469 : Cond.methodLink "SpokenMenus$Place" 56 ({ cls := "SpokenMenus$Place", name := "ticksOfLines", desc := "(I)I" } : MethodName) ∈ lw_tbl := List.mem_of_getElem? (i := 510) (by decide +kernel)
theorem qw_470 : Cond.instanceMethod ({ cls := "SpokenMenus$Place", name := "ticksOfLines", desc := "(I)I" } : MethodName) ∈ lw_tbl := List.mem_of_getElem? (i := 511) (by decide +kernel)
theorem qw_471 : Cond.selects "SpokenMenus$Place" ({ cls := "SpokenMenus$Place", name := "ticksOfLines", desc := "(I)I" } : MethodName) ({ cls := "SpokenMenus$Place", name := "ticksOfLines", desc := "(I)I" } : MethodName) ∈ lw_tbl := List.mem_of_getElem? (i := 512) (by decide +kernel)
theorem qw_472 : Cond.code ({ cls := "SpokenMenus$Place", name := "ticksOfLines", desc := "(I)I" } : MethodName) prog_7_method_5_code 4 (Option.some FieldType.int) ∈ lw_tbl := List.mem_of_getElem? (i := 513) (by decide +kernel)
theorem qw_473 : Cond.methodLink "SpokenMenus$Ways" 36 ({ cls := "SpokenMenus$Ways", name := "ticksFrom", desc := "(I)I" } : MethodName) ∈ lw_tbl := List.mem_of_getElem? (i := 514) (by decide +kernel)
theorem qw_474 : Cond.instanceMethod ({ cls := "SpokenMenus$Ways", name := "ticksFrom", desc := "(I)I" } : MethodName) ∈ lw_tbl := List.mem_of_getElem? (i := 515) (by decide +kernel)
theorem qw_475 : Cond.selects "SpokenMenus$Ways" ({ cls := "SpokenMenus$Ways", name := "ticksFrom", desc := "(I)I" } : MethodName) ({ cls := "SpokenMenus$Ways", name := "ticksFrom", desc := "(I)I" } : MethodName) ∈ lw_tbl := List.mem_of_getElem? (i := 516) (by decide +kernel)
theorem qw_476 : Cond.code ({ cls := "SpokenMenus$Ways", name := "ticksFrom", desc := "(I)I" } : MethodName) prog_11_method_3_code 2 (Option.some FieldType.int) ∈ lw_tbl := List.mem_of_getElem? (i := 517) (by decide +kernel)
theorem qw_477 : Cond.methodLink "SpokenMenus$Ways" 91 ({ cls := "java/lang/Math", name := "min", desc := "(II)I" } : MethodName) ∈ lw_tbl := List.mem_of_getElem? (i := 518) (by decide +kernel)
theorem qw_478 : Cond.static ({ cls := "java/lang/Math", name := "min", desc := "(II)I" } : MethodName) ∈ lw_tbl := List.mem_of_getElem? (i := 519) (by decide +kernel)
theorem qw_479 : Cond.code ({ cls := "java/lang/Math", name := "min", desc := "(II)I" } : MethodName) prog_15_method_69_code 2 (Option.some FieldType.int) ∈ lw_tbl := List.mem_of_getElem? (i := 520) (by decide +kernel)
theorem qw_480 : Cond.methodLink "SpokenMenus$Ways" 64 ({ cls := "SpokenMenus$Place", name := "serves", desc := "(I)Z" } : MethodName) ∈ lw_tbl := List.mem_of_getElem? (i := 521) (by decide +kernel)
theorem qw_481 : Cond.instanceMethod ({ cls := "SpokenMenus$Place", name := "serves", desc := "(I)Z" } : MethodName) ∈ lw_tbl := List.mem_of_getElem? (i := 522) (by decide +kernel)
theorem qw_482 : Cond.selects "SpokenMenus$Place" ({ cls := "SpokenMenus$Place", name := "serves", desc := "(I)Z" } : MethodName) ({ cls := "SpokenMenus$Place", name := "serves", desc := "(I)Z" } : MethodName) ∈ lw_tbl := List.mem_of_getElem? (i := 523) (by decide +kernel)
theorem qw_483 : Cond.code ({ cls := "SpokenMenus$Place", name := "serves", desc := "(I)Z" } : MethodName) prog_7_method_7_code 2 (Option.some FieldType.boolean) ∈ lw_tbl := List.mem_of_getElem? (i := 524) (by decide +kernel)
theorem qw_484 : Cond.methodLink "SpokenMenus$Ways" 74 ({ cls := "SpokenMenus$Place", name := "nextAtHour", desc := "(I)I" } : MethodName) ∈ lw_tbl := List.mem_of_getElem? (i := 525) (by decide +kernel)
theorem qw_485 : Cond.instanceMethod ({ cls := "SpokenMenus$Place", name := "nextAtHour", desc := "(I)I" } : MethodName) ∈ lw_tbl := List.mem_of_getElem? (i := 526) (by decide +kernel)
theorem qw_486 : Cond.selects "SpokenMenus$Place" ({ cls := "SpokenMenus$Place", name := "nextAtHour", desc := "(I)I" } : MethodName) ({ cls := "SpokenMenus$Place", name := "nextAtHour", desc := "(I)I" } : MethodName) ∈ lw_tbl := List.mem_of_getElem? (i := 527) (by decide +kernel)
theorem qw_487 : Cond.code ({ cls := "SpokenMenus$Place", name := "nextAtHour", desc := "(I)I" } : MethodName) prog_7_method_8_code 3 (Option.some FieldType.int) ∈ lw_tbl := List.mem_of_getElem? (i := 528) (by decide +kernel)
theorem qw_488 : Cond.methodLink "SpokenMenus$Ways" 80 ({ cls := "SpokenMenus$Place", name := "ticksOfTries", desc := "(IZ)I" } : MethodName) ∈ lw_tbl := List.mem_of_getElem? (i := 529) (by decide +kernel)
theorem qw_489 : Cond.instanceMethod ({ cls := "SpokenMenus$Place", name := "ticksOfTries", desc := "(IZ)I" } : MethodName) ∈ lw_tbl := List.mem_of_getElem? (i := 530) (by decide +kernel)
theorem qw_490 : Cond.selects "SpokenMenus$Place" ({ cls := "SpokenMenus$Place", name := "ticksOfTries", desc := "(IZ)I" } : MethodName) ({ cls := "SpokenMenus$Place", name := "ticksOfTries", desc := "(IZ)I" } : MethodName) ∈ lw_tbl := List.mem_of_getElem? (i := 531) (by decide +kernel)
theorem qw_491 : Cond.code ({ cls := "SpokenMenus$Place", name := "ticksOfTries", desc := "(IZ)I" } : MethodName) prog_7_method_11_code 4 (Option.some FieldType.int) ∈ lw_tbl := List.mem_of_getElem? (i := 532) (by decide +kernel)
theorem qw_492 : Cond.methodLink "SpokenMenus$Place" 60 ({ cls := "SpokenMenus$Place", name := "isRight", desc := "(I)Z" } : MethodName) ∈ lw_tbl := List.mem_of_getElem? (i := 533) (by decide +kernel)
theorem qw_493 : Cond.instanceMethod ({ cls := "SpokenMenus$Place", name := "isRight", desc := "(I)Z" } : MethodName) ∈ lw_tbl := List.mem_of_getElem? (i := 534) (by decide +kernel)
theorem qw_494 : Cond.selects "SpokenMenus$Place" ({ cls := "SpokenMenus$Place", name := "isRight", desc := "(I)Z" } : MethodName) ({ cls := "SpokenMenus$Place", name := "isRight", desc := "(I)Z" } : MethodName) ∈ lw_tbl := List.mem_of_getElem? (i := 535) (by decide +kernel)
theorem qw_495 : Cond.code ({ cls := "SpokenMenus$Place", name := "isRight", desc := "(I)Z" } : MethodName) prog_7_method_9_code 6 (Option.some FieldType.boolean) ∈ lw_tbl := List.mem_of_getElem? (i := 536) (by decide +kernel)
theorem qw_496 : Cond.methodLink "SpokenMenus$Ways" 84 ({ cls := "SpokenMenus$Place", name := "nextForNumber", desc := "(I)I" } : MethodName) ∈ lw_tbl := List.mem_of_getElem? (i := 537) (by decide +kernel)
theorem qw_497 : Cond.instanceMethod ({ cls := "SpokenMenus$Place", name := "nextForNumber", desc := "(I)I" } : MethodName) ∈ lw_tbl := List.mem_of_getElem? (i := 538) (by decide +kernel)
theorem qw_498 : Cond.selects "SpokenMenus$Place" ({ cls := "SpokenMenus$Place", name := "nextForNumber", desc := "(I)I" } : MethodName) ({ cls := "SpokenMenus$Place", name := "nextForNumber", desc := "(I)I" } : MethodName) ∈ lw_tbl := List.mem_of_getElem? (i := 539) (by decide +kernel)
theorem qw_499 : Cond.code ({ cls := "SpokenMenus$Place", name := "nextForNumber", desc := "(I)I" } : MethodName) prog_7_method_10_code 2 (Option.some FieldType.int) ∈ lw_tbl := List.mem_of_getElem? (i := 540) (by decide +kernel)
theorem qw_500 : Cond.methodLink "SpokenMenus$Walk" 56 ({ cls := "SpokenMenus$Ways", name := "ticksFrom", desc := "(I)I" } : MethodName) ∈ lw_tbl := List.mem_of_getElem? (i := 541) (by decide +kernel)
theorem qw_501 : Cond.constant "SpokenMenus$Walk" 60 (1000000 : Int32) ∈ lw_tbl := List.mem_of_getElem? (i := 542) (by decide +kernel)
theorem qw_502 : Cond.methodLink "SpokenMenus$Walk" 61 ({ cls := "SpokenMenus$Walk", name := "goThrough", desc := "(LSpokenMenus$House;LSpokenMenus$Ways;LSpokenMenus$Caller;)V" } : MethodName) ∈ lw_tbl := List.mem_of_getElem? (i := 543) (by decide +kernel)
theorem qw_503 : Cond.instanceMethod ({ cls := "SpokenMenus$Walk", name := "goThrough", desc := "(LSpokenMenus$House;LSpokenMenus$Ways;LSpokenMenus$Caller;)V" } : MethodName) ∈ lw_tbl := List.mem_of_getElem? (i := 544) (by decide +kernel)
theorem qw_504 : Cond.selects "SpokenMenus$Walk" ({ cls := "SpokenMenus$Walk", name := "goThrough", desc := "(LSpokenMenus$House;LSpokenMenus$Ways;LSpokenMenus$Caller;)V" } : MethodName) ({ cls := "SpokenMenus$Walk", name := "goThrough", desc := "(LSpokenMenus$House;LSpokenMenus$Ways;LSpokenMenus$Caller;)V" } : MethodName) ∈ lw_tbl := List.mem_of_getElem? (i := 545) (by decide +kernel)
theorem qw_505 : Cond.code ({ cls := "SpokenMenus$Walk", name := "goThrough", desc := "(LSpokenMenus$House;LSpokenMenus$Ways;LSpokenMenus$Caller;)V" } : MethodName) prog_10_method_3_code 7 none ∈ lw_tbl := List.mem_of_getElem? (i := 546) (by decide +kernel)
theorem qw_506 : Cond.methodLink "SpokenMenus$Walk" 65 ({ cls := "SpokenMenus$Walk", name := "begin", desc := "()V" } : MethodName) ∈ lw_tbl := List.mem_of_getElem? (i := 547) (by decide +kernel)
theorem qw_508 : Cond.instanceMethod ({ cls := "SpokenMenus$Walk", name := "begin", desc := "()V" } : MethodName) ∈ lw_tbl := List.mem_of_getElem? (i := 549) (by decide +kernel)
theorem qw_509 : Cond.code ({ cls := "SpokenMenus$Walk", name := "begin", desc := "()V" } : MethodName) prog_10_method_5_code 1 none ∈ lw_tbl := List.mem_of_getElem? (i := 550) (by decide +kernel)
theorem qw_511 : Cond.static ({ cls := "SpokenMenus", name := "clear", desc := "([Z)V" } : MethodName) ∈ lw_tbl := List.mem_of_getElem? (i := 552) (by decide +kernel)
theorem qw_512 : Cond.code ({ cls := "SpokenMenus", name := "clear", desc := "([Z)V" } : MethodName) prog_1_method_33_code 2 none ∈ lw_tbl := List.mem_of_getElem? (i := 553) (by decide +kernel)
theorem qw_513 : Cond.methodLink "SpokenMenus$Walk" 68 ({ cls := "SpokenMenus$House", name := "at", desc := "(I)LSpokenMenus$Place;" } : MethodName) ∈ lw_tbl := List.mem_of_getElem? (i := 554) (by decide +kernel)
theorem qw_514 : Cond.methodLink "SpokenMenus$Walk" 79 ({ cls := "SpokenMenus$Walk", name := "come", desc := "(II)V" } : MethodName) ∈ lw_tbl := List.mem_of_getElem? (i := 555) (by decide +kernel)
theorem qw_516 : Cond.instanceMethod ({ cls := "SpokenMenus$Walk", name := "come", desc := "(II)V" } : MethodName) ∈ lw_tbl := List.mem_of_getElem? (i := 557) (by decide +kernel)
theorem qw_517 : Cond.code ({ cls := "SpokenMenus$Walk", name := "come", desc := "(II)V" } : MethodName) prog_10_method_6_code 3 none ∈ lw_tbl := List.mem_of_getElem? (i := 558) (by decide +kernel)
theorem qw_518 : Cond.methodLink "SpokenMenus$Walk" 83 ({ cls := "SpokenMenus$Walk", name := "pass", desc := "(LSpokenMenus$Place;LSpokenMenus$Ways;LSpokenMenus$Caller;)I" } : MethodName) ∈ lw_tbl := List.mem_of_getElem? (i := 559) (by decide +kernel)
theorem qw_520 : Cond.instanceMethod ({ cls := "SpokenMenus$Walk", name := "pass", desc := "(LSpokenMenus$Place;LSpokenMenus$Ways;LSpokenMenus$Caller;)I" } : MethodName) ∈ lw_tbl := List.mem_of_getElem? (i := 561) (by decide +kernel)
theorem qw_521 : Cond.code ({ cls := "SpokenMenus$Walk", name := "pass", desc := "(LSpokenMenus$Place;LSpokenMenus$Ways;LSpokenMenus$Caller;)I" } : MethodName) prog_10_method_7_code 4 (Option.some FieldType.int) ∈ lw_tbl := List.mem_of_getElem? (i := 562) (by decide +kernel)
theorem qw_522 : Cond.methodLink "SpokenMenus$Walk" 91 ({ cls := "SpokenMenus$Walk", name := "passMenu", desc := "(LSpokenMenus$Place;LSpokenMenus$Ways;LSpokenMenus$Caller;)I" } : MethodName) ∈ lw_tbl := List.mem_of_getElem? (i := 563) (by decide +kernel)
theorem qw_524 : Cond.instanceMethod ({ cls := "SpokenMenus$Walk", name := "passMenu", desc := "(LSpokenMenus$Place;LSpokenMenus$Ways;LSpokenMenus$Caller;)I" } : MethodName) ∈ lw_tbl := List.mem_of_getElem? (i := 565) (by decide +kernel)
theorem qw_525 : Cond.code ({ cls := "SpokenMenus$Walk", name := "passMenu", desc := "(LSpokenMenus$Place;LSpokenMenus$Ways;LSpokenMenus$Caller;)I" } : MethodName) prog_10_method_8_code 5 (Option.some FieldType.int) ∈ lw_tbl := List.mem_of_getElem? (i := 566) (by decide +kernel)
theorem qw_526 : Cond.methodLink "SpokenMenus$Walk" 129 ({ cls := "SpokenMenus$Ways", name := "bestLine", desc := "(LSpokenMenus$Place;I)I" } : MethodName) ∈ lw_tbl := List.mem_of_getElem? (i := 567) (by decide +kernel)
theorem qw_527 : Cond.instanceMethod ({ cls := "SpokenMenus$Ways", name := "bestLine", desc := "(LSpokenMenus$Place;I)I" } : MethodName) ∈ lw_tbl := List.mem_of_getElem? (i := 568) (by decide +kernel)
theorem qw_528 : Cond.selects "SpokenMenus$Ways" ({ cls := "SpokenMenus$Ways", name := "bestLine", desc := "(LSpokenMenus$Place;I)I" } : MethodName) ({ cls := "SpokenMenus$Ways", name := "bestLine", desc := "(LSpokenMenus$Place;I)I" } : MethodName) ∈ lw_tbl := List.mem_of_getElem? (i := 569) (by decide +kernel)
theorem qw_529 : Cond.code ({ cls := "SpokenMenus$Ways", name := "bestLine", desc := "(LSpokenMenus$Place;I)I" } : MethodName) prog_11_method_4_code 5 (Option.some FieldType.int) ∈ lw_tbl := List.mem_of_getElem? (i := 570) (by decide +kernel)
theorem qw_530 : Cond.methodLink "SpokenMenus$Walk" 133 ({ cls := "SpokenMenus$Place", name := "firstLineFor", desc := "(I)I" } : MethodName) ∈ lw_tbl := List.mem_of_getElem? (i := 571) (by decide +kernel)
theorem qw_531 : Cond.instanceMethod ({ cls := "SpokenMenus$Place", name := "firstLineFor", desc := "(I)I" } : MethodName) ∈ lw_tbl := List.mem_of_getElem? (i := 572) (by decide +kernel)
theorem qw_532 : Cond.selects "SpokenMenus$Place" ({ cls := "SpokenMenus$Place", name := "firstLineFor", desc := "(I)I" } : MethodName) ({ cls := "SpokenMenus$Place", name := "firstLineFor", desc := "(I)I" } : MethodName) ∈ lw_tbl := List.mem_of_getElem? (i := 573) (by decide +kernel)
theorem qw_533 : Cond.code ({ cls := "SpokenMenus$Place", name := "firstLineFor", desc := "(I)I" } : MethodName) prog_7_method_4_code 3 (Option.some FieldType.int) ∈ lw_tbl := List.mem_of_getElem? (i := 574) (by decide +kernel)
theorem qw_534 : Cond.methodLink "SpokenMenus$Place" 51 ({ cls := "SpokenMenus$Line", name := "speaksOf", desc := "(I)Z" } : MethodName) ∈ lw_tbl := List.mem_of_getElem? (i := 575) (by decide +kernel)
theorem qw_535 : Cond.instanceMethod ({ cls := "SpokenMenus$Line", name := "speaksOf", desc := "(I)Z" } : MethodName) ∈ lw_tbl := List.mem_of_getElem? (i := 576) (by decide +kernel)
theorem qw_536 : Cond.selects "SpokenMenus$Line" ({ cls := "SpokenMenus$Line", name := "speaksOf", desc := "(I)Z" } : MethodName) ({ cls := "SpokenMenus$Line", name := "speaksOf", desc := "(I)Z" } : MethodName) ∈ lw_tbl := List.mem_of_getElem? (i := 577) (by decide +kernel)
theorem qw_537 : Cond.code ({ cls := "SpokenMenus$Line", name := "speaksOf", desc := "(I)Z" } : MethodName) prog_5_method_2_code 2 (Option.some FieldType.boolean) ∈ lw_tbl := List.mem_of_getElem? (i := 578) (by decide +kernel)
theorem qw_538 : Cond.methodLink "SpokenMenus$Walk" 139 ({ cls := "SpokenMenus$Place", name := "ticksOfHearingAll", desc := "()I" } : MethodName) ∈ lw_tbl := List.mem_of_getElem? (i := 579) (by decide +kernel)
theorem qw_539 : Cond.methodLink "SpokenMenus$Walk" 95 ({ cls := "SpokenMenus$Walk", name := "spend", desc := "(ILSpokenMenus$Caller;)V" } : MethodName) ∈ lw_tbl := List.mem_of_getElem? (i := 580) (by decide +kernel)
theorem qw_541 : Cond.instanceMethod ({ cls := "SpokenMenus$Walk", name := "spend", desc := "(ILSpokenMenus$Caller;)V" } : MethodName) ∈ lw_tbl := List.mem_of_getElem? (i := 582) (by decide +kernel)
theorem qw_542 : Cond.code ({ cls := "SpokenMenus$Walk", name := "spend", desc := "(ILSpokenMenus$Caller;)V" } : MethodName) prog_10_method_9_code 3 none ∈ lw_tbl := List.mem_of_getElem? (i := 583) (by decide +kernel)
theorem qw_543 : Cond.methodLink "SpokenMenus$Walk" 143 ({ cls := "SpokenMenus$Place", name := "ticksOfLines", desc := "(I)I" } : MethodName) ∈ lw_tbl := List.mem_of_getElem? (i := 584) (by decide +kernel)
theorem qw_544 : Cond.methodLink "SpokenMenus$Walk" 155 ({ cls := "SpokenMenus$Walk", name := "press", desc := "(ILSpokenMenus$Caller;)V" } : MethodName) ∈ lw_tbl := List.mem_of_getElem? (i := 585) (by decide +kernel)
theorem qw_546 : Cond.instanceMethod ({ cls := "SpokenMenus$Walk", name := "press", desc := "(ILSpokenMenus$Caller;)V" } : MethodName) ∈ lw_tbl := List.mem_of_getElem? (i := 587) (by decide +kernel)
theorem qw_547 : Cond.code ({ cls := "SpokenMenus$Walk", name := "press", desc := "(ILSpokenMenus$Caller;)V" } : MethodName) prog_10_method_10_code 3 none ∈ lw_tbl := List.mem_of_getElem? (i := 588) (by decide +kernel)
theorem qw_548 : Cond.methodLink "SpokenMenus$Walk" 102 ({ cls := "SpokenMenus$Place", name := "serves", desc := "(I)Z" } : MethodName) ∈ lw_tbl := List.mem_of_getElem? (i := 589) (by decide +kernel)
theorem qw_549 : Cond.methodLink "SpokenMenus$Walk" 106 ({ cls := "SpokenMenus$Walk", name := "finish", desc := "(I)V" } : MethodName) ∈ lw_tbl := List.mem_of_getElem? (i := 590) (by decide +kernel)
theorem qw_551 : Cond.instanceMethod ({ cls := "SpokenMenus$Walk", name := "finish", desc := "(I)V" } : MethodName) ∈ lw_tbl := List.mem_of_getElem? (i := 592) (by decide +kernel)
theorem qw_552 : Cond.code ({ cls := "SpokenMenus$Walk", name := "finish", desc := "(I)V" } : MethodName) prog_10_method_11_code 2 none ∈ lw_tbl := List.mem_of_getElem? (i := 593) (by decide +kernel)
theorem qw_553 : Cond.methodLink "SpokenMenus$Walk" 116 ({ cls := "SpokenMenus$Place", name := "nextAtHour", desc := "(I)I" } : MethodName) ∈ lw_tbl := List.mem_of_getElem? (i := 594) (by decide +kernel)
theorem qw_554 : Cond.methodLink "SpokenMenus$Walk" 122 ({ cls := "SpokenMenus$Place", name := "ticksOfTries", desc := "(IZ)I" } : MethodName) ∈ lw_tbl := List.mem_of_getElem? (i := 595) (by decide +kernel)
theorem qw_555 : Cond.methodLink "SpokenMenus$Walk" 126 ({ cls := "SpokenMenus$Place", name := "nextForNumber", desc := "(I)I" } : MethodName) ∈ lw_tbl := List.mem_of_getElem? (i := 596) (by decide +kernel)
theorem qw_564 : Cond.methodLink "SpokenMenus" 191 ({ cls := "SpokenMenus", name := "keptAt", desc := "([III)I" } : MethodName) ∈ lw_tbl := List.mem_of_getElem? (i := 605) (by decide +kernel)
theorem qw_565 : Cond.static ({ cls := "SpokenMenus", name := "keptAt", desc := "([III)I" } : MethodName) ∈ lw_tbl := List.mem_of_getElem? (i := 606) (by decide +kernel)
theorem qw_566 : Cond.code ({ cls := "SpokenMenus", name := "keptAt", desc := "([III)I" } : MethodName) prog_1_method_34_code 3 (Option.some FieldType.int) ∈ lw_tbl := List.mem_of_getElem? (i := 607) (by decide +kernel)
theorem qw_575 : Cond.methodLink "SpokenMenus" 198 ({ cls := "SpokenMenus$Ways", name := "measure", desc := "(LSpokenMenus$House;LSpokenMenus$Caller;)V" } : MethodName) ∈ lw_tbl := List.mem_of_getElem? (i := 616) (by decide +kernel)
theorem qw_576 : Cond.methodLink "SpokenMenus" 202 ({ cls := "SpokenMenus$Ways", name := "ticksFrom", desc := "(I)I" } : MethodName) ∈ lw_tbl := List.mem_of_getElem? (i := 617) (by decide +kernel)
theorem qw_577 : Cond.constant "SpokenMenus" 206 (1000000 : Int32) ∈ lw_tbl := List.mem_of_getElem? (i := 618) (by decide +kernel)
theorem qw_582 : Cond.methodLink "SpokenMenus" 207 ({ cls := "SpokenMenus$Traps", name := "look", desc := "(LSpokenMenus$House;I)V" } : MethodName) ∈ lw_tbl := List.mem_of_getElem? (i := 623) (by decide +kernel)
theorem qw_583 : Cond.instanceMethod ({ cls := "SpokenMenus$Traps", name := "look", desc := "(LSpokenMenus$House;I)V" } : MethodName) ∈ lw_tbl := List.mem_of_getElem? (i := 624) (by decide +kernel)
theorem qw_584 : Cond.selects "SpokenMenus$Traps" ({ cls := "SpokenMenus$Traps", name := "look", desc := "(LSpokenMenus$House;I)V" } : MethodName) ({ cls := "SpokenMenus$Traps", name := "look", desc := "(LSpokenMenus$House;I)V" } : MethodName) ∈ lw_tbl := List.mem_of_getElem? (i := 625) (by decide +kernel)
theorem qw_585 : Cond.code ({ cls := "SpokenMenus$Traps", name := "look", desc := "(LSpokenMenus$House;I)V" } : MethodName) prog_9_method_2_code 6 none ∈ lw_tbl := List.mem_of_getElem? (i := 626) (by decide +kernel)
theorem qw_587 : Cond.methodLink "SpokenMenus$Traps" 32 ({ cls := "SpokenMenus$Traps", name := "spread", desc := "(LSpokenMenus$Place;II)Z" } : MethodName) ∈ lw_tbl := List.mem_of_getElem? (i := 628) (by decide +kernel)
theorem qw_589 : Cond.instanceMethod ({ cls := "SpokenMenus$Traps", name := "spread", desc := "(LSpokenMenus$Place;II)Z" } : MethodName) ∈ lw_tbl := List.mem_of_getElem? (i := 630) (by decide +kernel)
theorem qw_590 : Cond.code ({ cls := "SpokenMenus$Traps", name := "spread", desc := "(LSpokenMenus$Place;II)Z" } : MethodName) prog_9_method_6_code 8 (Option.some FieldType.boolean) ∈ lw_tbl := List.mem_of_getElem? (i := 631) (by decide +kernel)
theorem qw_591 : Cond.methodLink "SpokenMenus$Traps" 45 ({ cls := "SpokenMenus$Place", name := "exits", desc := "()I" } : MethodName) ∈ lw_tbl := List.mem_of_getElem? (i := 632) (by decide +kernel)
theorem qw_592 : Cond.instanceMethod ({ cls := "SpokenMenus$Place", name := "exits", desc := "()I" } : MethodName) ∈ lw_tbl := List.mem_of_getElem? (i := 633) (by decide +kernel)
theorem qw_593 : Cond.selects "SpokenMenus$Place" ({ cls := "SpokenMenus$Place", name := "exits", desc := "()I" } : MethodName) ({ cls := "SpokenMenus$Place", name := "exits", desc := "()I" } : MethodName) ∈ lw_tbl := List.mem_of_getElem? (i := 634) (by decide +kernel)
theorem qw_594 : Cond.code ({ cls := "SpokenMenus$Place", name := "exits", desc := "()I" } : MethodName) prog_7_method_12_code 1 (Option.some FieldType.int) ∈ lw_tbl := List.mem_of_getElem? (i := 635) (by decide +kernel)
theorem qw_595 : Cond.methodLink "SpokenMenus$Traps" 49 ({ cls := "SpokenMenus$Place", name := "exitAt", desc := "(II)I" } : MethodName) ∈ lw_tbl := List.mem_of_getElem? (i := 636) (by decide +kernel)
theorem qw_596 : Cond.instanceMethod ({ cls := "SpokenMenus$Place", name := "exitAt", desc := "(II)I" } : MethodName) ∈ lw_tbl := List.mem_of_getElem? (i := 637) (by decide +kernel)
theorem qw_597 : Cond.selects "SpokenMenus$Place" ({ cls := "SpokenMenus$Place", name := "exitAt", desc := "(II)I" } : MethodName) ({ cls := "SpokenMenus$Place", name := "exitAt", desc := "(II)I" } : MethodName) ∈ lw_tbl := List.mem_of_getElem? (i := 638) (by decide +kernel)
theorem qw_598 : Cond.code ({ cls := "SpokenMenus$Place", name := "exitAt", desc := "(II)I" } : MethodName) prog_7_method_13_code 3 (Option.some FieldType.int) ∈ lw_tbl := List.mem_of_getElem? (i := 639) (by decide +kernel)
theorem qw_599 : Cond.methodLink "SpokenMenus$Place" 63 ({ cls := "SpokenMenus$Place", name := "nextAtHour", desc := "(I)I" } : MethodName) ∈ lw_tbl := List.mem_of_getElem? (i := 640) (by decide +kernel)
theorem qw_600 : Cond.methodLink "SpokenMenus" 211 ({ cls := "SpokenMenus$Traps", name := "howMany", desc := "(LSpokenMenus$House;)I" } : MethodName) ∈ lw_tbl := List.mem_of_getElem? (i := 641) (by decide +kernel)
theorem qw_601 : Cond.instanceMethod ({ cls := "SpokenMenus$Traps", name := "howMany", desc := "(LSpokenMenus$House;)I" } : MethodName) ∈ lw_tbl := List.mem_of_getElem? (i := 642) (by decide +kernel)
theorem qw_602 : Cond.selects "SpokenMenus$Traps" ({ cls := "SpokenMenus$Traps", name := "howMany", desc := "(LSpokenMenus$House;)I" } : MethodName) ({ cls := "SpokenMenus$Traps", name := "howMany", desc := "(LSpokenMenus$House;)I" } : MethodName) ∈ lw_tbl := List.mem_of_getElem? (i := 643) (by decide +kernel)
theorem qw_603 : Cond.code ({ cls := "SpokenMenus$Traps", name := "howMany", desc := "(LSpokenMenus$House;)I" } : MethodName) prog_9_method_3_code 4 (Option.some FieldType.int) ∈ lw_tbl := List.mem_of_getElem? (i := 644) (by decide +kernel)
theorem qw_604 : Cond.methodLink "SpokenMenus$Traps" 36 ({ cls := "SpokenMenus$Traps", name := "isTrap", desc := "(I)Z" } : MethodName) ∈ lw_tbl := List.mem_of_getElem? (i := 645) (by decide +kernel)
theorem qw_606 : Cond.instanceMethod ({ cls := "SpokenMenus$Traps", name := "isTrap", desc := "(I)Z" } : MethodName) ∈ lw_tbl := List.mem_of_getElem? (i := 647) (by decide +kernel)
theorem qw_607 : Cond.code ({ cls := "SpokenMenus$Traps", name := "isTrap", desc := "(I)Z" } : MethodName) prog_9_method_5_code 2 (Option.some FieldType.boolean) ∈ lw_tbl := List.mem_of_getElem? (i := 648) (by decide +kernel)
theorem qw_608 : Cond.methodLink "SpokenMenus" 215 ({ cls := "SpokenMenus$Traps", name := "numberOf", desc := "(LSpokenMenus$House;I)I" } : MethodName) ∈ lw_tbl := List.mem_of_getElem? (i := 649) (by decide +kernel)
theorem qw_609 : Cond.instanceMethod ({ cls := "SpokenMenus$Traps", name := "numberOf", desc := "(LSpokenMenus$House;I)I" } : MethodName) ∈ lw_tbl := List.mem_of_getElem? (i := 650) (by decide +kernel)
theorem qw_610 : Cond.selects "SpokenMenus$Traps" ({ cls := "SpokenMenus$Traps", name := "numberOf", desc := "(LSpokenMenus$House;I)I" } : MethodName) ({ cls := "SpokenMenus$Traps", name := "numberOf", desc := "(LSpokenMenus$House;I)I" } : MethodName) ∈ lw_tbl := List.mem_of_getElem? (i := 651) (by decide +kernel)
theorem qw_611 : Cond.code ({ cls := "SpokenMenus$Traps", name := "numberOf", desc := "(LSpokenMenus$House;I)I" } : MethodName) prog_9_method_4_code 5 (Option.some FieldType.int) ∈ lw_tbl := List.mem_of_getElem? (i := 652) (by decide +kernel)
theorem qw_616 : Cond.methodLink "SpokenMenus" 220 ({ cls := "SpokenMenus$Groups", name := "add", desc := "(ILSpokenMenus$Caller;)V" } : MethodName) ∈ lw_tbl := List.mem_of_getElem? (i := 657) (by decide +kernel)
theorem qw_617 : Cond.instanceMethod ({ cls := "SpokenMenus$Groups", name := "add", desc := "(ILSpokenMenus$Caller;)V" } : MethodName) ∈ lw_tbl := List.mem_of_getElem? (i := 658) (by decide +kernel)
theorem qw_618 : Cond.selects "SpokenMenus$Groups" ({ cls := "SpokenMenus$Groups", name := "add", desc := "(ILSpokenMenus$Caller;)V" } : MethodName) ({ cls := "SpokenMenus$Groups", name := "add", desc := "(ILSpokenMenus$Caller;)V" } : MethodName) ∈ lw_tbl := List.mem_of_getElem? (i := 659) (by decide +kernel)
theorem qw_619 : Cond.code ({ cls := "SpokenMenus$Groups", name := "add", desc := "(ILSpokenMenus$Caller;)V" } : MethodName) prog_3_method_2_code 3 none ∈ lw_tbl := List.mem_of_getElem? (i := 660) (by decide +kernel)
theorem qw_636 : Cond.methodLink "SpokenMenus" 230 ({ cls := "SpokenMenus", name := "countListeners", desc := "(ILSpokenMenus$Place;)V" } : MethodName) ∈ lw_tbl := List.mem_of_getElem? (i := 677) (by decide +kernel)
theorem qw_638 : Cond.instanceMethod ({ cls := "SpokenMenus", name := "countListeners", desc := "(ILSpokenMenus$Place;)V" } : MethodName) ∈ lw_tbl := List.mem_of_getElem? (i := 679) (by decide +kernel)
theorem qw_639 : Cond.code ({ cls := "SpokenMenus", name := "countListeners", desc := "(ILSpokenMenus$Place;)V" } : MethodName) prog_1_method_35_code 5 none ∈ lw_tbl := List.mem_of_getElem? (i := 680) (by decide +kernel)
theorem qw_640 : Cond.methodLink "SpokenMenus" 272 ({ cls := "SpokenMenus$Ordering", name := "forget", desc := "()V" } : MethodName) ∈ lw_tbl := List.mem_of_getElem? (i := 681) (by decide +kernel)
theorem qw_641 : Cond.instanceMethod ({ cls := "SpokenMenus$Ordering", name := "forget", desc := "()V" } : MethodName) ∈ lw_tbl := List.mem_of_getElem? (i := 682) (by decide +kernel)
theorem qw_642 : Cond.selects "SpokenMenus$Ordering" ({ cls := "SpokenMenus$Ordering", name := "forget", desc := "()V" } : MethodName) ({ cls := "SpokenMenus$Ordering", name := "forget", desc := "()V" } : MethodName) ∈ lw_tbl := List.mem_of_getElem? (i := 683) (by decide +kernel)
theorem qw_643 : Cond.code ({ cls := "SpokenMenus$Ordering", name := "forget", desc := "()V" } : MethodName) prog_6_method_2_code 1 none ∈ lw_tbl := List.mem_of_getElem? (i := 684) (by decide +kernel)
theorem qw_644 : Cond.methodLink "SpokenMenus$Ordering" 24 ({ cls := "java/util/Arrays", name := "fill", desc := "([II)V" } : MethodName) ∈ lw_tbl := List.mem_of_getElem? (i := 685) (by decide +kernel)
theorem qw_645 : Cond.methodLink "SpokenMenus" 278 ({ cls := "SpokenMenus$Walk", name := "goThrough", desc := "(LSpokenMenus$House;LSpokenMenus$Ways;LSpokenMenus$Caller;)V" } : MethodName) ∈ lw_tbl := List.mem_of_getElem? (i := 686) (by decide +kernel)
theorem qw_646 : Cond.methodLink "SpokenMenus" 281 ({ cls := "SpokenMenus$Walk", name := "hasSeen", desc := "(I)Z" } : MethodName) ∈ lw_tbl := List.mem_of_getElem? (i := 687) (by decide +kernel)
theorem qw_647 : Cond.instanceMethod ({ cls := "SpokenMenus$Walk", name := "hasSeen", desc := "(I)Z" } : MethodName) ∈ lw_tbl := List.mem_of_getElem? (i := 688) (by decide +kernel)
theorem qw_648 : Cond.selects "SpokenMenus$Walk" ({ cls := "SpokenMenus$Walk", name := "hasSeen", desc := "(I)Z" } : MethodName) ({ cls := "SpokenMenus$Walk", name := "hasSeen", desc := "(I)Z" } : MethodName) ∈ lw_tbl := List.mem_of_getElem? (i := 689) (by decide +kernel)
theorem qw_649 : Cond.code ({ cls := "SpokenMenus$Walk", name := "hasSeen", desc := "(I)Z" } : MethodName) prog_10_method_4_code 2 (Option.some FieldType.boolean) ∈ lw_tbl := List.mem_of_getElem? (i := 690) (by decide +kernel)
theorem qw_650 : Cond.methodLink "SpokenMenus" 287 ({ cls := "SpokenMenus$Place", name := "firstLineFor", desc := "(I)I" } : MethodName) ∈ lw_tbl := List.mem_of_getElem? (i := 691) (by decide +kernel)
theorem qw_651 : Cond.methodLink "SpokenMenus" 290 ({ cls := "SpokenMenus$Ordering", name := "addCallers", desc := "(II)V" } : MethodName) ∈ lw_tbl := List.mem_of_getElem? (i := 692) (by decide +kernel)
theorem qw_652 : Cond.instanceMethod ({ cls := "SpokenMenus$Ordering", name := "addCallers", desc := "(II)V" } : MethodName) ∈ lw_tbl := List.mem_of_getElem? (i := 693) (by decide +kernel)
theorem qw_653 : Cond.selects "SpokenMenus$Ordering" ({ cls := "SpokenMenus$Ordering", name := "addCallers", desc := "(II)V" } : MethodName) ({ cls := "SpokenMenus$Ordering", name := "addCallers", desc := "(II)V" } : MethodName) ∈ lw_tbl := List.mem_of_getElem? (i := 694) (by decide +kernel)
theorem qw_654 : Cond.code ({ cls := "SpokenMenus$Ordering", name := "addCallers", desc := "(II)V" } : MethodName) prog_6_method_3_code 3 none ∈ lw_tbl := List.mem_of_getElem? (i := 695) (by decide +kernel)
theorem qw_655 : Cond.methodLink "SpokenMenus" 234 ({ cls := "SpokenMenus$Ordering", name := "costAsTheyStand", desc := "(LSpokenMenus$Place;)I" } : MethodName) ∈ lw_tbl := List.mem_of_getElem? (i := 696) (by decide +kernel)
theorem qw_656 : Cond.instanceMethod ({ cls := "SpokenMenus$Ordering", name := "costAsTheyStand", desc := "(LSpokenMenus$Place;)I" } : MethodName) ∈ lw_tbl := List.mem_of_getElem? (i := 697) (by decide +kernel)
theorem qw_657 : Cond.selects "SpokenMenus$Ordering" ({ cls := "SpokenMenus$Ordering", name := "costAsTheyStand", desc := "(LSpokenMenus$Place;)I" } : MethodName) ({ cls := "SpokenMenus$Ordering", name := "costAsTheyStand", desc := "(LSpokenMenus$Place;)I" } : MethodName) ∈ lw_tbl := List.mem_of_getElem? (i := 698) (by decide +kernel)
theorem qw_658 : Cond.code ({ cls := "SpokenMenus$Ordering", name := "costAsTheyStand", desc := "(LSpokenMenus$Place;)I" } : MethodName) prog_6_method_5_code 5 (Option.some FieldType.int) ∈ lw_tbl := List.mem_of_getElem? (i := 699) (by decide +kernel)
theorem qw_659 : Cond.methodLink "SpokenMenus" 237 ({ cls := "SpokenMenus$Ordering", name := "sort", desc := "(LSpokenMenus$Place;)V" } : MethodName) ∈ lw_tbl := List.mem_of_getElem? (i := 700) (by decide +kernel)
theorem qw_660 : Cond.instanceMethod ({ cls := "SpokenMenus$Ordering", name := "sort", desc := "(LSpokenMenus$Place;)V" } : MethodName) ∈ lw_tbl := List.mem_of_getElem? (i := 701) (by decide +kernel)
theorem qw_661 : Cond.selects "SpokenMenus$Ordering" ({ cls := "SpokenMenus$Ordering", name := "sort", desc := "(LSpokenMenus$Place;)V" } : MethodName) ({ cls := "SpokenMenus$Ordering", name := "sort", desc := "(LSpokenMenus$Place;)V" } : MethodName) ∈ lw_tbl := List.mem_of_getElem? (i := 702) (by decide +kernel)
theorem qw_662 : Cond.code ({ cls := "SpokenMenus$Ordering", name := "sort", desc := "(LSpokenMenus$Place;)V" } : MethodName) prog_6_method_4_code 4 none ∈ lw_tbl := List.mem_of_getElem? (i := 703) (by decide +kernel)
theorem qw_663 : Cond.methodLink "SpokenMenus$Ordering" 36 ({ cls := "SpokenMenus$Ordering", name := "goesAhead", desc := "(LSpokenMenus$Place;II)Z" } : MethodName) ∈ lw_tbl := List.mem_of_getElem? (i := 704) (by decide +kernel)
theorem qw_665 : Cond.instanceMethod ({ cls := "SpokenMenus$Ordering", name := "goesAhead", desc := "(LSpokenMenus$Place;II)Z" } : MethodName) ∈ lw_tbl := List.mem_of_getElem? (i := 706) (by decide +kernel)
theorem qw_666 : Cond.code ({ cls := "SpokenMenus$Ordering", name := "goesAhead", desc := "(LSpokenMenus$Place;II)Z" } : MethodName) prog_6_method_8_code 4 (Option.some FieldType.boolean) ∈ lw_tbl := List.mem_of_getElem? (i := 707) (by decide +kernel)
theorem qw_667 : Cond.methodLink "SpokenMenus" 241 ({ cls := "SpokenMenus$Ordering", name := "costSorted", desc := "(LSpokenMenus$Place;)I" } : MethodName) ∈ lw_tbl := List.mem_of_getElem? (i := 708) (by decide +kernel)
theorem qw_668 : Cond.instanceMethod ({ cls := "SpokenMenus$Ordering", name := "costSorted", desc := "(LSpokenMenus$Place;)I" } : MethodName) ∈ lw_tbl := List.mem_of_getElem? (i := 709) (by decide +kernel)
theorem qw_669 : Cond.selects "SpokenMenus$Ordering" ({ cls := "SpokenMenus$Ordering", name := "costSorted", desc := "(LSpokenMenus$Place;)I" } : MethodName) ({ cls := "SpokenMenus$Ordering", name := "costSorted", desc := "(LSpokenMenus$Place;)I" } : MethodName) ∈ lw_tbl := List.mem_of_getElem? (i := 710) (by decide +kernel)
theorem qw_670 : Cond.code ({ cls := "SpokenMenus$Ordering", name := "costSorted", desc := "(LSpokenMenus$Place;)I" } : MethodName) prog_6_method_6_code 5 (Option.some FieldType.int) ∈ lw_tbl := List.mem_of_getElem? (i := 711) (by decide +kernel)
theorem qw_675 : Cond.methodLink "SpokenMenus" 247 ({ cls := "SpokenMenus$Ordering", name := "putInOrder", desc := "(LSpokenMenus$Place;)V" } : MethodName) ∈ lw_tbl := List.mem_of_getElem? (i := 716) (by decide +kernel)
theorem qw_676 : Cond.instanceMethod ({ cls := "SpokenMenus$Ordering", name := "putInOrder", desc := "(LSpokenMenus$Place;)V" } : MethodName) ∈ lw_tbl := List.mem_of_getElem? (i := 717) (by decide +kernel)
theorem qw_677 : Cond.selects "SpokenMenus$Ordering" ({ cls := "SpokenMenus$Ordering", name := "putInOrder", desc := "(LSpokenMenus$Place;)V" } : MethodName) ({ cls := "SpokenMenus$Ordering", name := "putInOrder", desc := "(LSpokenMenus$Place;)V" } : MethodName) ∈ lw_tbl := List.mem_of_getElem? (i := 718) (by decide +kernel)
theorem qw_678 : Cond.code ({ cls := "SpokenMenus$Ordering", name := "putInOrder", desc := "(LSpokenMenus$Place;)V" } : MethodName) prog_6_method_7_code 3 none ∈ lw_tbl := List.mem_of_getElem? (i := 719) (by decide +kernel)
theorem qw_687 : Cond.methodLink "SpokenMenus" 256 ({ cls := "SpokenMenus$Planner", name := "make", desc := "(III)I" } : MethodName) ∈ lw_tbl := List.mem_of_getElem? (i := 728) (by decide +kernel)
theorem qw_688 : Cond.instanceMethod ({ cls := "SpokenMenus$Planner", name := "make", desc := "(III)I" } : MethodName) ∈ lw_tbl := List.mem_of_getElem? (i := 729) (by decide +kernel)
theorem qw_689 : Cond.selects "SpokenMenus$Planner" ({ cls := "SpokenMenus$Planner", name := "make", desc := "(III)I" } : MethodName) ({ cls := "SpokenMenus$Planner", name := "make", desc := "(III)I" } : MethodName) ∈ lw_tbl := List.mem_of_getElem? (i := 730) (by decide +kernel)
theorem qw_690 : Cond.code ({ cls := "SpokenMenus$Planner", name := "make", desc := "(III)I" } : MethodName) prog_8_method_2_code 7 (Option.some FieldType.int) ∈ lw_tbl := List.mem_of_getElem? (i := 731) (by decide +kernel)
theorem qw_691 : Cond.methodLink "SpokenMenus$Planner" 52 ({ cls := "java/lang/Integer", name := "numberOfTrailingZeros", desc := "(I)I" } : MethodName) ∈ lw_tbl := List.mem_of_getElem? (i := 732) (by decide +kernel)
theorem qw_692 : Cond.static ({ cls := "java/lang/Integer", name := "numberOfTrailingZeros", desc := "(I)I" } : MethodName) ∈ lw_tbl := List.mem_of_getElem? (i := 733) (by decide +kernel)
theorem qw_693 : Cond.code ({ cls := "java/lang/Integer", name := "numberOfTrailingZeros", desc := "(I)I" } : MethodName) prog_14_method_48_code 2 (Option.some FieldType.int) ∈ lw_tbl := List.mem_of_getElem? (i := 734) (by decide +kernel)
theorem qw_694 : Cond.constant "java/lang/Integer" 264 (65536 : Int32) ∈ lw_tbl := List.mem_of_getElem? (i := 735) (by decide +kernel)
theorem qw_695 : Cond.methodLink "SpokenMenus$Planner" 58 ({ cls := "SpokenMenus$Planner", name := "planMenu", desc := "(I)V" } : MethodName) ∈ lw_tbl := List.mem_of_getElem? (i := 736) (by decide +kernel)
theorem qw_697 : Cond.instanceMethod ({ cls := "SpokenMenus$Planner", name := "planMenu", desc := "(I)V" } : MethodName) ∈ lw_tbl := List.mem_of_getElem? (i := 738) (by decide +kernel)
theorem qw_698 : Cond.code ({ cls := "SpokenMenus$Planner", name := "planMenu", desc := "(I)V" } : MethodName) prog_8_method_5_code 4 none ∈ lw_tbl := List.mem_of_getElem? (i := 739) (by decide +kernel)
theorem qw_699 : Cond.methodLink "SpokenMenus$Planner" 66 ({ cls := "SpokenMenus$Planner", name := "isOne", desc := "(I)Z" } : MethodName) ∈ lw_tbl := List.mem_of_getElem? (i := 740) (by decide +kernel)
theorem qw_700 : Cond.static ({ cls := "SpokenMenus$Planner", name := "isOne", desc := "(I)Z" } : MethodName) ∈ lw_tbl := List.mem_of_getElem? (i := 741) (by decide +kernel)
theorem qw_701 : Cond.code ({ cls := "SpokenMenus$Planner", name := "isOne", desc := "(I)Z" } : MethodName) prog_8_method_4_code 1 (Option.some FieldType.boolean) ∈ lw_tbl := List.mem_of_getElem? (i := 742) (by decide +kernel)
theorem qw_702 : Cond.methodLink "SpokenMenus$Planner" 70 ({ cls := "SpokenMenus$Planner", name := "costOfLine", desc := "(II)I" } : MethodName) ∈ lw_tbl := List.mem_of_getElem? (i := 743) (by decide +kernel)
theorem qw_704 : Cond.instanceMethod ({ cls := "SpokenMenus$Planner", name := "costOfLine", desc := "(II)I" } : MethodName) ∈ lw_tbl := List.mem_of_getElem? (i := 745) (by decide +kernel)
theorem qw_705 : Cond.code ({ cls := "SpokenMenus$Planner", name := "costOfLine", desc := "(II)I" } : MethodName) prog_8_method_7_code 3 (Option.some FieldType.int) ∈ lw_tbl := List.mem_of_getElem? (i := 746) (by decide +kernel)
theorem qw_706 : Cond.methodLink "SpokenMenus$Planner" 62 ({ cls := "SpokenMenus$Planner", name := "planRest", desc := "(II)V" } : MethodName) ∈ lw_tbl := List.mem_of_getElem? (i := 747) (by decide +kernel)
theorem qw_708 : Cond.instanceMethod ({ cls := "SpokenMenus$Planner", name := "planRest", desc := "(II)V" } : MethodName) ∈ lw_tbl := List.mem_of_getElem? (i := 749) (by decide +kernel)
theorem qw_709 : Cond.code ({ cls := "SpokenMenus$Planner", name := "planRest", desc := "(II)V" } : MethodName) prog_8_method_6_code 6 none ∈ lw_tbl := List.mem_of_getElem? (i := 750) (by decide +kernel)
theorem qw_714 : Cond.methodLink "SpokenMenus" 263 ({ cls := "SpokenMenus$Planner", name := "partOf", desc := "(II)I" } : MethodName) ∈ lw_tbl := List.mem_of_getElem? (i := 755) (by decide +kernel)
theorem qw_715 : Cond.instanceMethod ({ cls := "SpokenMenus$Planner", name := "partOf", desc := "(II)I" } : MethodName) ∈ lw_tbl := List.mem_of_getElem? (i := 756) (by decide +kernel)
theorem qw_716 : Cond.selects "SpokenMenus$Planner" ({ cls := "SpokenMenus$Planner", name := "partOf", desc := "(II)I" } : MethodName) ({ cls := "SpokenMenus$Planner", name := "partOf", desc := "(II)I" } : MethodName) ∈ lw_tbl := List.mem_of_getElem? (i := 757) (by decide +kernel)
theorem qw_717 : Cond.code ({ cls := "SpokenMenus$Planner", name := "partOf", desc := "(II)I" } : MethodName) prog_8_method_3_code 6 (Option.some FieldType.int) ∈ lw_tbl := List.mem_of_getElem? (i := 758) (by decide +kernel)
theorem qw_722 : Cond.methodLink "SpokenMenus" 267 ({ cls := "SpokenMenus$Groups", name := "howManyCallers", desc := "()I" } : MethodName) ∈ lw_tbl := List.mem_of_getElem? (i := 763) (by decide +kernel)
theorem qw_723 : Cond.instanceMethod ({ cls := "SpokenMenus$Groups", name := "howManyCallers", desc := "()I" } : MethodName) ∈ lw_tbl := List.mem_of_getElem? (i := 764) (by decide +kernel)
theorem qw_724 : Cond.selects "SpokenMenus$Groups" ({ cls := "SpokenMenus$Groups", name := "howManyCallers", desc := "()I" } : MethodName) ({ cls := "SpokenMenus$Groups", name := "howManyCallers", desc := "()I" } : MethodName) ∈ lw_tbl := List.mem_of_getElem? (i := 765) (by decide +kernel)
theorem qw_725 : Cond.code ({ cls := "SpokenMenus$Groups", name := "howManyCallers", desc := "()I" } : MethodName) prog_3_method_3_code 3 (Option.some FieldType.int) ∈ lw_tbl := List.mem_of_getElem? (i := 766) (by decide +kernel)
theorem qw_731 : Cond.methodLink "SpokenMenusModel" 1 ({ cls := "java/lang/Object", name := "<init>", desc := "()V" } : MethodName) ∈ lw_tbl := List.mem_of_getElem? (i := 772) (by decide +kernel)
theorem qw_732 : Cond.fieldLink "SpokenMenusModel" 125 "SpokenMenusModel" "places" "I" ∈ lw_tbl := List.mem_of_getElem? (i := 773) (by decide +kernel)
theorem qw_733 : Cond.fieldLink "SpokenMenusModel" 7 "SpokenMenusModel" "kind" "[I" ∈ lw_tbl := List.mem_of_getElem? (i := 774) (by decide +kernel)
theorem qw_734 : Cond.fieldLink "SpokenMenusModel" 13 "SpokenMenusModel" "ticks" "[I" ∈ lw_tbl := List.mem_of_getElem? (i := 775) (by decide +kernel)
theorem qw_735 : Cond.fieldLink "SpokenMenusModel" 16 "SpokenMenusModel" "times" "[I" ∈ lw_tbl := List.mem_of_getElem? (i := 776) (by decide +kernel)
theorem qw_736 : Cond.fieldLink "SpokenMenusModel" 19 "SpokenMenusModel" "first" "[I" ∈ lw_tbl := List.mem_of_getElem? (i := 777) (by decide +kernel)
theorem qw_737 : Cond.fieldLink "SpokenMenusModel" 22 "SpokenMenusModel" "second" "[I" ∈ lw_tbl := List.mem_of_getElem? (i := 778) (by decide +kernel)
theorem qw_738 : Cond.fieldLink "SpokenMenusModel" 25 "SpokenMenusModel" "serves" "[I" ∈ lw_tbl := List.mem_of_getElem? (i := 779) (by decide +kernel)
theorem qw_739 : Cond.fieldLink "SpokenMenusModel" 28 "SpokenMenusModel" "from" "[I" ∈ lw_tbl := List.mem_of_getElem? (i := 780) (by decide +kernel)
theorem qw_740 : Cond.fieldLink "SpokenMenusModel" 31 "SpokenMenusModel" "to" "[I" ∈ lw_tbl := List.mem_of_getElem? (i := 781) (by decide +kernel)
theorem qw_741 : Cond.fieldLink "SpokenMenusModel" 34 "SpokenMenusModel" "figures" "[I" ∈ lw_tbl := List.mem_of_getElem? (i := 782) (by decide +kernel)
theorem qw_742 : Cond.fieldLink "SpokenMenusModel" 37 "SpokenMenusModel" "lines" "[I" ∈ lw_tbl := List.mem_of_getElem? (i := 783) (by decide +kernel)
theorem qw_743 : Cond.fieldLink "SpokenMenusModel" 40 "SpokenMenusModel" "lineTicks" "[I" ∈ lw_tbl := List.mem_of_getElem? (i := 784) (by decide +kernel)
theorem qw_744 : Cond.fieldLink "SpokenMenusModel" 43 "SpokenMenusModel" "lineKey" "[I" ∈ lw_tbl := List.mem_of_getElem? (i := 785) (by decide +kernel)
theorem qw_745 : Cond.fieldLink "SpokenMenusModel" 46 "SpokenMenusModel" "lineWishes" "[I" ∈ lw_tbl := List.mem_of_getElem? (i := 786) (by decide +kernel)
theorem qw_746 : Cond.fieldLink "SpokenMenusModel" 49 "SpokenMenusModel" "lineNext" "[I" ∈ lw_tbl := List.mem_of_getElem? (i := 787) (by decide +kernel)
theorem qw_747 : Cond.fieldLink "SpokenMenusModel" 264 "SpokenMenusModel" "groups" "I" ∈ lw_tbl := List.mem_of_getElem? (i := 788) (by decide +kernel)
theorem qw_748 : Cond.fieldLink "SpokenMenusModel" 52 "SpokenMenusModel" "groupMany" "[I" ∈ lw_tbl := List.mem_of_getElem? (i := 789) (by decide +kernel)
theorem qw_749 : Cond.fieldLink "SpokenMenusModel" 55 "SpokenMenusModel" "groupWish" "[I" ∈ lw_tbl := List.mem_of_getElem? (i := 790) (by decide +kernel)
theorem qw_750 : Cond.fieldLink "SpokenMenusModel" 58 "SpokenMenusModel" "groupNumber" "[I" ∈ lw_tbl := List.mem_of_getElem? (i := 791) (by decide +kernel)
theorem qw_751 : Cond.fieldLink "SpokenMenusModel" 61 "SpokenMenusModel" "groupPatience" "[I" ∈ lw_tbl := List.mem_of_getElem? (i := 792) (by decide +kernel)
theorem qw_752 : Cond.fieldLink "SpokenMenusModel" 64 "SpokenMenusModel" "groupHour" "[I" ∈ lw_tbl := List.mem_of_getElem? (i := 793) (by decide +kernel)
theorem qw_753 : Cond.fieldLink "SpokenMenusModel" 67 "SpokenMenusModel" "groupKnows" "[I" ∈ lw_tbl := List.mem_of_getElem? (i := 794) (by decide +kernel)
theorem qw_754 : Cond.fieldLink "SpokenMenusModel" 241 "SpokenMenusModel" "wasRung" "Z" ∈ lw_tbl := List.mem_of_getElem? (i := 795) (by decide +kernel)
theorem qw_755 : Cond.fieldLink "SpokenMenusModel" 245 "SpokenMenusModel" "toldTicks" "I" ∈ lw_tbl := List.mem_of_getElem? (i := 796) (by decide +kernel)
theorem qw_756 : Cond.fieldLink "SpokenMenusModel" 248 "SpokenMenusModel" "toldPlace" "I" ∈ lw_tbl := List.mem_of_getElem? (i := 797) (by decide +kernel)
theorem qw_757 : Cond.fieldLink "SpokenMenusModel" 251 "SpokenMenusModel" "toldCame" "I" ∈ lw_tbl := List.mem_of_getElem? (i := 798) (by decide +kernel)
theorem qw_758 : Cond.fieldLink "SpokenMenusModel" 254 "SpokenMenusModel" "toldKeys" "I" ∈ lw_tbl := List.mem_of_getElem? (i := 799) (by decide +kernel)
theorem qw_759 : Cond.fieldLink "SpokenMenusModel" 70 "SpokenMenusModel" "toldPlaces" "[I" ∈ lw_tbl := List.mem_of_getElem? (i := 800) (by decide +kernel)
theorem qw_760 : Cond.fieldLink "SpokenMenusModel" 73 "SpokenMenusModel" "toldPressed" "[I" ∈ lw_tbl := List.mem_of_getElem? (i := 801) (by decide +kernel)
theorem qw_761 : Cond.fieldLink "SpokenMenusModel" 76 "SpokenMenusModel" "wishTicks" "[I" ∈ lw_tbl := List.mem_of_getElem? (i := 802) (by decide +kernel)
theorem qw_762 : Cond.fieldLink "SpokenMenusModel" 79 "SpokenMenusModel" "wishCallers" "[I" ∈ lw_tbl := List.mem_of_getElem? (i := 803) (by decide +kernel)
theorem qw_763 : Cond.fieldLink "SpokenMenusModel" 289 "SpokenMenusModel" "planned" "I" ∈ lw_tbl := List.mem_of_getElem? (i := 804) (by decide +kernel)
theorem qw_764 : Cond.fieldLink "SpokenMenusModel" 169 "SpokenMenusModel" "wishNow" "I" ∈ lw_tbl := List.mem_of_getElem? (i := 805) (by decide +kernel)
theorem qw_765 : Cond.fieldLink "SpokenMenusModel" 166 "SpokenMenusModel" "number" "I" ∈ lw_tbl := List.mem_of_getElem? (i := 806) (by decide +kernel)
theorem qw_766 : Cond.fieldLink "SpokenMenusModel" 199 "SpokenMenusModel" "patience" "I" ∈ lw_tbl := List.mem_of_getElem? (i := 807) (by decide +kernel)
theorem qw_767 : Cond.fieldLink "SpokenMenusModel" 163 "SpokenMenusModel" "hour" "I" ∈ lw_tbl := List.mem_of_getElem? (i := 808) (by decide +kernel)
theorem qw_768 : Cond.fieldLink "SpokenMenusModel" 82 "SpokenMenusModel" "least" "[I" ∈ lw_tbl := List.mem_of_getElem? (i := 809) (by decide +kernel)
theorem qw_769 : Cond.fieldLink "SpokenMenusModel" 196 "SpokenMenusModel" "gone" "I" ∈ lw_tbl := List.mem_of_getElem? (i := 810) (by decide +kernel)
theorem qw_770 : Cond.fieldLink "SpokenMenusModel" 209 "SpokenMenusModel" "at" "I" ∈ lw_tbl := List.mem_of_getElem? (i := 811) (by decide +kernel)
theorem qw_771 : Cond.fieldLink "SpokenMenusModel" 222 "SpokenMenusModel" "came" "I" ∈ lw_tbl := List.mem_of_getElem? (i := 812) (by decide +kernel)
theorem qw_772 : Cond.fieldLink "SpokenMenusModel" 202 "SpokenMenusModel" "keys" "I" ∈ lw_tbl := List.mem_of_getElem? (i := 813) (by decide +kernel)
theorem qw_773 : Cond.fieldLink "SpokenMenusModel" 212 "SpokenMenusModel" "clocks" "I" ∈ lw_tbl := List.mem_of_getElem? (i := 814) (by decide +kernel)
theorem qw_774 : Cond.fieldLink "SpokenMenusModel" 85 "SpokenMenusModel" "met" "[Z" ∈ lw_tbl := List.mem_of_getElem? (i := 815) (by decide +kernel)
theorem qw_775 : Cond.fieldLink "SpokenMenusModel" 89 "SpokenMenusModel" "placesKept" "[I" ∈ lw_tbl := List.mem_of_getElem? (i := 816) (by decide +kernel)
theorem qw_776 : Cond.fieldLink "SpokenMenusModel" 92 "SpokenMenusModel" "keysKept" "[I" ∈ lw_tbl := List.mem_of_getElem? (i := 817) (by decide +kernel)
theorem qw_777 : Cond.fieldLink "SpokenMenusModel" 95 "SpokenMenusModel" "isReached" "[Z" ∈ lw_tbl := List.mem_of_getElem? (i := 818) (by decide +kernel)
theorem qw_778 : Cond.fieldLink "SpokenMenusModel" 98 "SpokenMenusModel" "isWell" "[Z" ∈ lw_tbl := List.mem_of_getElem? (i := 819) (by decide +kernel)
theorem qw_779 : Cond.fieldLink "SpokenMenusModel" 101 "SpokenMenusModel" "one" "[Z" ∈ lw_tbl := List.mem_of_getElem? (i := 820) (by decide +kernel)
theorem qw_780 : Cond.fieldLink "SpokenMenusModel" 104 "SpokenMenusModel" "lineCallers" "[I" ∈ lw_tbl := List.mem_of_getElem? (i := 821) (by decide +kernel)
theorem qw_781 : Cond.fieldLink "SpokenMenusModel" 107 "SpokenMenusModel" "order" "[I" ∈ lw_tbl := List.mem_of_getElem? (i := 822) (by decide +kernel)
theorem qw_782 : Cond.fieldLink "SpokenMenusModel" 110 "SpokenMenusModel" "lay" "[I" ∈ lw_tbl := List.mem_of_getElem? (i := 823) (by decide +kernel)
theorem qw_783 : Cond.fieldLink "SpokenMenusModel" 113 "SpokenMenusModel" "cost" "[I" ∈ lw_tbl := List.mem_of_getElem? (i := 824) (by decide +kernel)
theorem qw_784 : Cond.fieldLink "SpokenMenusModel" 116 "SpokenMenusModel" "menuCost" "[I" ∈ lw_tbl := List.mem_of_getElem? (i := 825) (by decide +kernel)
theorem qw_785 : Cond.fieldLink "SpokenMenusModel" 273 "SpokenMenusModel" "groupTicks" "I" ∈ lw_tbl := List.mem_of_getElem? (i := 826) (by decide +kernel)
theorem qw_786 : Cond.fieldLink "SpokenMenusModel" 286 "SpokenMenusModel" "breadth" "I" ∈ lw_tbl := List.mem_of_getElem? (i := 827) (by decide +kernel)
theorem qw_787 : Cond.fieldLink "SpokenMenusModel" 119 "SpokenMenusModel" "callersOf" "[I" ∈ lw_tbl := List.mem_of_getElem? (i := 828) (by decide +kernel)
theorem qw_788 : Cond.fieldLink "SpokenMenusModel" 122 "SpokenMenusModel" "planTicks" "[I" ∈ lw_tbl := List.mem_of_getElem? (i := 829) (by decide +kernel)
theorem qw_908 : Cond.methodLink "SpokenMenusModel" 129 ({ cls := "SpokenMenusModel", name := "in", desc := "(III)Z" } : MethodName) ∈ lw_tbl := List.mem_of_getElem? (i := 949) (by decide +kernel)
theorem qw_909 : Cond.static ({ cls := "SpokenMenusModel", name := "in", desc := "(III)Z" } : MethodName) ∈ lw_tbl := List.mem_of_getElem? (i := 950) (by decide +kernel)
theorem qw_910 : Cond.code ({ cls := "SpokenMenusModel", name := "in", desc := "(III)Z" } : MethodName) prog_13_method_2_code 3 (Option.some FieldType.boolean) ∈ lw_tbl := List.mem_of_getElem? (i := 951) (by decide +kernel)
theorem qw_911 : Cond.methodLink "SpokenMenusModel" 134 ({ cls := "SpokenMenusModel", name := "isNext", desc := "(I)Z" } : MethodName) ∈ lw_tbl := List.mem_of_getElem? (i := 952) (by decide +kernel)
theorem qw_912 : Cond.static ({ cls := "SpokenMenusModel", name := "isNext", desc := "(I)Z" } : MethodName) ∈ lw_tbl := List.mem_of_getElem? (i := 953) (by decide +kernel)
theorem qw_913 : Cond.code ({ cls := "SpokenMenusModel", name := "isNext", desc := "(I)Z" } : MethodName) prog_13_method_4_code 1 (Option.some FieldType.boolean) ∈ lw_tbl := List.mem_of_getElem? (i := 954) (by decide +kernel)
theorem qw_914 : Cond.methodLink "SpokenMenusModel" 138 ({ cls := "SpokenMenusModel", name := "newPlace", desc := "(IIII)I" } : MethodName) ∈ lw_tbl := List.mem_of_getElem? (i := 955) (by decide +kernel)
theorem qw_916 : Cond.instanceMethod ({ cls := "SpokenMenusModel", name := "newPlace", desc := "(IIII)I" } : MethodName) ∈ lw_tbl := List.mem_of_getElem? (i := 957) (by decide +kernel)
theorem qw_917 : Cond.code ({ cls := "SpokenMenusModel", name := "newPlace", desc := "(IIII)I" } : MethodName) prog_13_method_6_code 5 (Option.some FieldType.int) ∈ lw_tbl := List.mem_of_getElem? (i := 958) (by decide +kernel)
theorem qw_922 : Cond.methodLink "SpokenMenusModel" 145 ({ cls := "SpokenMenusModel", name := "isMenu", desc := "(I)Z" } : MethodName) ∈ lw_tbl := List.mem_of_getElem? (i := 963) (by decide +kernel)
theorem qw_924 : Cond.instanceMethod ({ cls := "SpokenMenusModel", name := "isMenu", desc := "(I)Z" } : MethodName) ∈ lw_tbl := List.mem_of_getElem? (i := 965) (by decide +kernel)
theorem qw_925 : Cond.code ({ cls := "SpokenMenusModel", name := "isMenu", desc := "(I)Z" } : MethodName) prog_13_method_8_code 2 (Option.some FieldType.boolean) ∈ lw_tbl := List.mem_of_getElem? (i := 966) (by decide +kernel)
theorem qw_926 : Cond.methodLink "SpokenMenusModel" 142 ({ cls := "SpokenMenusModel", name := "isPlace", desc := "(I)Z" } : MethodName) ∈ lw_tbl := List.mem_of_getElem? (i := 967) (by decide +kernel)
theorem qw_928 : Cond.instanceMethod ({ cls := "SpokenMenusModel", name := "isPlace", desc := "(I)Z" } : MethodName) ∈ lw_tbl := List.mem_of_getElem? (i := 969) (by decide +kernel)
theorem qw_929 : Cond.code ({ cls := "SpokenMenusModel", name := "isPlace", desc := "(I)Z" } : MethodName) prog_13_method_3_code 2 (Option.some FieldType.boolean) ∈ lw_tbl := List.mem_of_getElem? (i := 970) (by decide +kernel)
theorem qw_930 : Cond.methodLink "SpokenMenusModel" 148 ({ cls := "SpokenMenusModel", name := "areWishes", desc := "(I)Z" } : MethodName) ∈ lw_tbl := List.mem_of_getElem? (i := 971) (by decide +kernel)
theorem qw_931 : Cond.static ({ cls := "SpokenMenusModel", name := "areWishes", desc := "(I)Z" } : MethodName) ∈ lw_tbl := List.mem_of_getElem? (i := 972) (by decide +kernel)
theorem qw_932 : Cond.code ({ cls := "SpokenMenusModel", name := "areWishes", desc := "(I)Z" } : MethodName) prog_13_method_5_code 1 (Option.some FieldType.boolean) ∈ lw_tbl := List.mem_of_getElem? (i := 973) (by decide +kernel)
theorem qw_933 : Cond.constant "SpokenMenusModel" 133 (65535 : Int32) ∈ lw_tbl := List.mem_of_getElem? (i := 974) (by decide +kernel)
theorem qw_954 : Cond.methodLink "SpokenMenusModel" 151 ({ cls := "SpokenMenusModel", name := "isLine", desc := "(II)Z" } : MethodName) ∈ lw_tbl := List.mem_of_getElem? (i := 995) (by decide +kernel)
theorem qw_956 : Cond.instanceMethod ({ cls := "SpokenMenusModel", name := "isLine", desc := "(II)Z" } : MethodName) ∈ lw_tbl := List.mem_of_getElem? (i := 997) (by decide +kernel)
theorem qw_957 : Cond.code ({ cls := "SpokenMenusModel", name := "isLine", desc := "(II)Z" } : MethodName) prog_13_method_14_code 3 (Option.some FieldType.boolean) ∈ lw_tbl := List.mem_of_getElem? (i := 998) (by decide +kernel)
theorem qw_962 : Cond.methodLink "SpokenMenusModel" 159 ({ cls := "SpokenMenusModel", name := "swapAt", desc := "(II)V" } : MethodName) ∈ lw_tbl := List.mem_of_getElem? (i := 1003) (by decide +kernel)
theorem qw_964 : Cond.instanceMethod ({ cls := "SpokenMenusModel", name := "swapAt", desc := "(II)V" } : MethodName) ∈ lw_tbl := List.mem_of_getElem? (i := 1005) (by decide +kernel)
theorem qw_965 : Cond.code ({ cls := "SpokenMenusModel", name := "swapAt", desc := "(II)V" } : MethodName) prog_13_method_17_code 3 none ∈ lw_tbl := List.mem_of_getElem? (i := 1006) (by decide +kernel)
theorem qw_966 : Cond.methodLink "SpokenMenusModel" 155 ({ cls := "SpokenMenusModel", name := "turn", desc := "([III)V" } : MethodName) ∈ lw_tbl := List.mem_of_getElem? (i := 1007) (by decide +kernel)
theorem qw_967 : Cond.static ({ cls := "SpokenMenusModel", name := "turn", desc := "([III)V" } : MethodName) ∈ lw_tbl := List.mem_of_getElem? (i := 1008) (by decide +kernel)
theorem qw_968 : Cond.code ({ cls := "SpokenMenusModel", name := "turn", desc := "([III)V" } : MethodName) prog_13_method_16_code 4 none ∈ lw_tbl := List.mem_of_getElem? (i := 1009) (by decide +kernel)
theorem qw_981 : Cond.methodLink "SpokenMenusModel" 233 ({ cls := "SpokenMenusModel", name := "isCaller", desc := "(IIIII)Z" } : MethodName) ∈ lw_tbl := List.mem_of_getElem? (i := 1022) (by decide +kernel)
theorem qw_982 : Cond.static ({ cls := "SpokenMenusModel", name := "isCaller", desc := "(IIIII)Z" } : MethodName) ∈ lw_tbl := List.mem_of_getElem? (i := 1023) (by decide +kernel)
theorem qw_983 : Cond.code ({ cls := "SpokenMenusModel", name := "isCaller", desc := "(IIIII)Z" } : MethodName) prog_13_method_34_code 5 (Option.some FieldType.boolean) ∈ lw_tbl := List.mem_of_getElem? (i := 1024) (by decide +kernel)
theorem qw_984 : Cond.constant "SpokenMenusModel" 232 (99999999 : Int32) ∈ lw_tbl := List.mem_of_getElem? (i := 1025) (by decide +kernel)
theorem qw_985 : Cond.methodLink "SpokenMenusModel" 237 ({ cls := "SpokenMenusModel", name := "goThrough", desc := "(IIIIZ)I" } : MethodName) ∈ lw_tbl := List.mem_of_getElem? (i := 1026) (by decide +kernel)
theorem qw_987 : Cond.instanceMethod ({ cls := "SpokenMenusModel", name := "goThrough", desc := "(IIIIZ)I" } : MethodName) ∈ lw_tbl := List.mem_of_getElem? (i := 1028) (by decide +kernel)
theorem qw_988 : Cond.code ({ cls := "SpokenMenusModel", name := "goThrough", desc := "(IIIIZ)I" } : MethodName) prog_13_method_33_code 8 (Option.some FieldType.int) ∈ lw_tbl := List.mem_of_getElem? (i := 1029) (by decide +kernel)
theorem qw_989 : Cond.methodLink "SpokenMenusModel" 225 ({ cls := "SpokenMenusModel", name := "layLeast", desc := "()V" } : MethodName) ∈ lw_tbl := List.mem_of_getElem? (i := 1030) (by decide +kernel)
theorem qw_991 : Cond.instanceMethod ({ cls := "SpokenMenusModel", name := "layLeast", desc := "()V" } : MethodName) ∈ lw_tbl := List.mem_of_getElem? (i := 1032) (by decide +kernel)
theorem qw_992 : Cond.code ({ cls := "SpokenMenusModel", name := "layLeast", desc := "()V" } : MethodName) prog_13_method_28_code 4 none ∈ lw_tbl := List.mem_of_getElem? (i := 1033) (by decide +kernel)
theorem qw_993 : Cond.constant "SpokenMenusModel" 172 (100000000 : Int32) ∈ lw_tbl := List.mem_of_getElem? (i := 1034) (by decide +kernel)
theorem qw_994 : Cond.methodLink "SpokenMenusModel" 193 ({ cls := "SpokenMenusModel", name := "leastAt", desc := "(I)I" } : MethodName) ∈ lw_tbl := List.mem_of_getElem? (i := 1035) (by decide +kernel)
theorem qw_996 : Cond.instanceMethod ({ cls := "SpokenMenusModel", name := "leastAt", desc := "(I)I" } : MethodName) ∈ lw_tbl := List.mem_of_getElem? (i := 1037) (by decide +kernel)
theorem qw_997 : Cond.code ({ cls := "SpokenMenusModel", name := "leastAt", desc := "(I)I" } : MethodName) prog_13_method_27_code 5 (Option.some FieldType.int) ∈ lw_tbl := List.mem_of_getElem? (i := 1038) (by decide +kernel)
theorem qw_998 : Cond.methodLink "SpokenMenusModel" 177 ({ cls := "SpokenMenusModel", name := "isServed", desc := "(I)Z" } : MethodName) ∈ lw_tbl := List.mem_of_getElem? (i := 1039) (by decide +kernel)
theorem qw_1000 : Cond.instanceMethod ({ cls := "SpokenMenusModel", name := "isServed", desc := "(I)Z" } : MethodName) ∈ lw_tbl := List.mem_of_getElem? (i := 1041) (by decide +kernel)
theorem qw_1001 : Cond.code ({ cls := "SpokenMenusModel", name := "isServed", desc := "(I)Z" } : MethodName) prog_13_method_23_code 2 (Option.some FieldType.boolean) ∈ lw_tbl := List.mem_of_getElem? (i := 1042) (by decide +kernel)
theorem qw_1002 : Cond.methodLink "SpokenMenusModel" 180 ({ cls := "SpokenMenusModel", name := "through", desc := "(II)I" } : MethodName) ∈ lw_tbl := List.mem_of_getElem? (i := 1043) (by decide +kernel)
theorem qw_1004 : Cond.instanceMethod ({ cls := "SpokenMenusModel", name := "through", desc := "(II)I" } : MethodName) ∈ lw_tbl := List.mem_of_getElem? (i := 1045) (by decide +kernel)
theorem qw_1005 : Cond.code ({ cls := "SpokenMenusModel", name := "through", desc := "(II)I" } : MethodName) prog_13_method_26_code 4 (Option.some FieldType.int) ∈ lw_tbl := List.mem_of_getElem? (i := 1046) (by decide +kernel)
theorem qw_1006 : Cond.methodLink "SpokenMenusModel" 173 ({ cls := "SpokenMenusModel", name := "leastOf", desc := "(I)I" } : MethodName) ∈ lw_tbl := List.mem_of_getElem? (i := 1047) (by decide +kernel)
theorem qw_1008 : Cond.instanceMethod ({ cls := "SpokenMenusModel", name := "leastOf", desc := "(I)I" } : MethodName) ∈ lw_tbl := List.mem_of_getElem? (i := 1049) (by decide +kernel)
theorem qw_1009 : Cond.code ({ cls := "SpokenMenusModel", name := "leastOf", desc := "(I)I" } : MethodName) prog_13_method_25_code 2 (Option.some FieldType.int) ∈ lw_tbl := List.mem_of_getElem? (i := 1050) (by decide +kernel)
theorem qw_1010 : Cond.methodLink "SpokenMenusModel" 184 ({ cls := "SpokenMenusModel", name := "isOpen", desc := "(I)Z" } : MethodName) ∈ lw_tbl := List.mem_of_getElem? (i := 1051) (by decide +kernel)
theorem qw_1012 : Cond.instanceMethod ({ cls := "SpokenMenusModel", name := "isOpen", desc := "(I)Z" } : MethodName) ∈ lw_tbl := List.mem_of_getElem? (i := 1053) (by decide +kernel)
theorem qw_1013 : Cond.code ({ cls := "SpokenMenusModel", name := "isOpen", desc := "(I)Z" } : MethodName) prog_13_method_21_code 2 (Option.some FieldType.boolean) ∈ lw_tbl := List.mem_of_getElem? (i := 1054) (by decide +kernel)
theorem qw_1014 : Cond.methodLink "SpokenMenusModel" 187 ({ cls := "SpokenMenusModel", name := "isRight", desc := "(I)Z" } : MethodName) ∈ lw_tbl := List.mem_of_getElem? (i := 1055) (by decide +kernel)
theorem qw_1016 : Cond.instanceMethod ({ cls := "SpokenMenusModel", name := "isRight", desc := "(I)Z" } : MethodName) ∈ lw_tbl := List.mem_of_getElem? (i := 1057) (by decide +kernel)
theorem qw_1017 : Cond.code ({ cls := "SpokenMenusModel", name := "isRight", desc := "(I)Z" } : MethodName) prog_13_method_22_code 5 (Option.some FieldType.boolean) ∈ lw_tbl := List.mem_of_getElem? (i := 1058) (by decide +kernel)
theorem qw_1018 : Cond.methodLink "SpokenMenusModel" 190 ({ cls := "SpokenMenusModel", name := "heard", desc := "(I)I" } : MethodName) ∈ lw_tbl := List.mem_of_getElem? (i := 1059) (by decide +kernel)
theorem qw_1020 : Cond.instanceMethod ({ cls := "SpokenMenusModel", name := "heard", desc := "(I)I" } : MethodName) ∈ lw_tbl := List.mem_of_getElem? (i := 1061) (by decide +kernel)
theorem qw_1021 : Cond.code ({ cls := "SpokenMenusModel", name := "heard", desc := "(I)I" } : MethodName) prog_13_method_24_code 4 (Option.some FieldType.int) ∈ lw_tbl := List.mem_of_getElem? (i := 1062) (by decide +kernel)
theorem qw_1022 : Cond.methodLink "SpokenMenusModel" 219 ({ cls := "SpokenMenusModel", name := "comes", desc := "(I)V" } : MethodName) ∈ lw_tbl := List.mem_of_getElem? (i := 1063) (by decide +kernel)
theorem qw_1024 : Cond.instanceMethod ({ cls := "SpokenMenusModel", name := "comes", desc := "(I)V" } : MethodName) ∈ lw_tbl := List.mem_of_getElem? (i := 1065) (by decide +kernel)
theorem qw_1025 : Cond.code ({ cls := "SpokenMenusModel", name := "comes", desc := "(I)V" } : MethodName) prog_13_method_32_code 2 none ∈ lw_tbl := List.mem_of_getElem? (i := 1066) (by decide +kernel)
theorem qw_1026 : Cond.methodLink "SpokenMenusModel" 228 ({ cls := "SpokenMenusModel", name := "step", desc := "(Z)I" } : MethodName) ∈ lw_tbl := List.mem_of_getElem? (i := 1067) (by decide +kernel)
theorem qw_1028 : Cond.instanceMethod ({ cls := "SpokenMenusModel", name := "step", desc := "(Z)I" } : MethodName) ∈ lw_tbl := List.mem_of_getElem? (i := 1069) (by decide +kernel)
theorem qw_1029 : Cond.code ({ cls := "SpokenMenusModel", name := "step", desc := "(Z)I" } : MethodName) prog_13_method_31_code 6 (Option.some FieldType.int) ∈ lw_tbl := List.mem_of_getElem? (i := 1070) (by decide +kernel)
theorem qw_1030 : Cond.methodLink "SpokenMenusModel" 215 ({ cls := "SpokenMenusModel", name := "goOn", desc := "(IZ)I" } : MethodName) ∈ lw_tbl := List.mem_of_getElem? (i := 1071) (by decide +kernel)
theorem qw_1032 : Cond.instanceMethod ({ cls := "SpokenMenusModel", name := "goOn", desc := "(IZ)I" } : MethodName) ∈ lw_tbl := List.mem_of_getElem? (i := 1073) (by decide +kernel)
theorem qw_1033 : Cond.code ({ cls := "SpokenMenusModel", name := "goOn", desc := "(IZ)I" } : MethodName) prog_13_method_30_code 5 (Option.some FieldType.int) ∈ lw_tbl := List.mem_of_getElem? (i := 1074) (by decide +kernel)
theorem qw_1034 : Cond.methodLink "SpokenMenusModel" 205 ({ cls := "SpokenMenusModel", name := "press", desc := "(I)V" } : MethodName) ∈ lw_tbl := List.mem_of_getElem? (i := 1075) (by decide +kernel)
theorem qw_1036 : Cond.instanceMethod ({ cls := "SpokenMenusModel", name := "press", desc := "(I)V" } : MethodName) ∈ lw_tbl := List.mem_of_getElem? (i := 1077) (by decide +kernel)
theorem qw_1037 : Cond.code ({ cls := "SpokenMenusModel", name := "press", desc := "(I)V" } : MethodName) prog_13_method_29_code 2 none ∈ lw_tbl := List.mem_of_getElem? (i := 1078) (by decide +kernel)
theorem qw_1058 : Cond.methodLink "SpokenMenusModel" 261 ({ cls := "SpokenMenusModel", name := "layTraps", desc := "()V" } : MethodName) ∈ lw_tbl := List.mem_of_getElem? (i := 1099) (by decide +kernel)
theorem qw_1060 : Cond.instanceMethod ({ cls := "SpokenMenusModel", name := "layTraps", desc := "()V" } : MethodName) ∈ lw_tbl := List.mem_of_getElem? (i := 1101) (by decide +kernel)
theorem qw_1061 : Cond.code ({ cls := "SpokenMenusModel", name := "layTraps", desc := "()V" } : MethodName) prog_13_method_41_code 4 none ∈ lw_tbl := List.mem_of_getElem? (i := 1102) (by decide +kernel)
theorem qw_1062 : Cond.methodLink "SpokenMenusModel" 257 ({ cls := "SpokenMenusModel", name := "leads", desc := "(I[Z)Z" } : MethodName) ∈ lw_tbl := List.mem_of_getElem? (i := 1103) (by decide +kernel)
theorem qw_1064 : Cond.instanceMethod ({ cls := "SpokenMenusModel", name := "leads", desc := "(I[Z)Z" } : MethodName) ∈ lw_tbl := List.mem_of_getElem? (i := 1105) (by decide +kernel)
theorem qw_1065 : Cond.code ({ cls := "SpokenMenusModel", name := "leads", desc := "(I[Z)Z" } : MethodName) prog_13_method_40_code 6 (Option.some FieldType.boolean) ∈ lw_tbl := List.mem_of_getElem? (i := 1106) (by decide +kernel)
theorem qw_1078 : Cond.methodLink "SpokenMenusModel" 267 ({ cls := "SpokenMenusModel", name := "callOf", desc := "(I)I" } : MethodName) ∈ lw_tbl := List.mem_of_getElem? (i := 1119) (by decide +kernel)
theorem qw_1080 : Cond.instanceMethod ({ cls := "SpokenMenusModel", name := "callOf", desc := "(I)I" } : MethodName) ∈ lw_tbl := List.mem_of_getElem? (i := 1121) (by decide +kernel)
theorem qw_1081 : Cond.code ({ cls := "SpokenMenusModel", name := "callOf", desc := "(I)I" } : MethodName) prog_13_method_45_code 2 (Option.some FieldType.int) ∈ lw_tbl := List.mem_of_getElem? (i := 1122) (by decide +kernel)
theorem qw_1090 : Cond.methodLink "SpokenMenusModel" 270 ({ cls := "SpokenMenusModel", name := "layOrder", desc := "(I)V" } : MethodName) ∈ lw_tbl := List.mem_of_getElem? (i := 1131) (by decide +kernel)
theorem qw_1092 : Cond.instanceMethod ({ cls := "SpokenMenusModel", name := "layOrder", desc := "(I)V" } : MethodName) ∈ lw_tbl := List.mem_of_getElem? (i := 1133) (by decide +kernel)
theorem qw_1093 : Cond.code ({ cls := "SpokenMenusModel", name := "layOrder", desc := "(I)V" } : MethodName) prog_13_method_48_code 6 none ∈ lw_tbl := List.mem_of_getElem? (i := 1134) (by decide +kernel)
theorem qw_1106 : Cond.methodLink "SpokenMenusModel" 292 ({ cls := "SpokenMenusModel", name := "leastLine", desc := "(IIZ)I" } : MethodName) ∈ lw_tbl := List.mem_of_getElem? (i := 1147) (by decide +kernel)
theorem qw_1108 : Cond.instanceMethod ({ cls := "SpokenMenusModel", name := "leastLine", desc := "(IIZ)I" } : MethodName) ∈ lw_tbl := List.mem_of_getElem? (i := 1149) (by decide +kernel)
theorem qw_1109 : Cond.code ({ cls := "SpokenMenusModel", name := "leastLine", desc := "(IIZ)I" } : MethodName) prog_13_method_55_code 8 (Option.some FieldType.int) ∈ lw_tbl := List.mem_of_getElem? (i := 1150) (by decide +kernel)
theorem qw_1110 : Cond.methodLink "SpokenMenusModel" 276 ({ cls := "SpokenMenusModel", name := "isAlone", desc := "(I)Z" } : MethodName) ∈ lw_tbl := List.mem_of_getElem? (i := 1151) (by decide +kernel)
theorem qw_1111 : Cond.static ({ cls := "SpokenMenusModel", name := "isAlone", desc := "(I)Z" } : MethodName) ∈ lw_tbl := List.mem_of_getElem? (i := 1152) (by decide +kernel)
theorem qw_1112 : Cond.code ({ cls := "SpokenMenusModel", name := "isAlone", desc := "(I)Z" } : MethodName) prog_13_method_52_code 1 (Option.some FieldType.boolean) ∈ lw_tbl := List.mem_of_getElem? (i := 1153) (by decide +kernel)
theorem qw_1113 : Cond.methodLink "SpokenMenusModel" 282 ({ cls := "SpokenMenusModel", name := "lineCost", desc := "(III)I" } : MethodName) ∈ lw_tbl := List.mem_of_getElem? (i := 1154) (by decide +kernel)
theorem qw_1115 : Cond.instanceMethod ({ cls := "SpokenMenusModel", name := "lineCost", desc := "(III)I" } : MethodName) ∈ lw_tbl := List.mem_of_getElem? (i := 1156) (by decide +kernel)
theorem qw_1116 : Cond.code ({ cls := "SpokenMenusModel", name := "lineCost", desc := "(III)I" } : MethodName) prog_13_method_54_code 6 (Option.some FieldType.int) ∈ lw_tbl := List.mem_of_getElem? (i := 1157) (by decide +kernel)
theorem qw_1117 : Cond.methodLink "SpokenMenusModel" 279 ({ cls := "SpokenMenusModel", name := "ticksOf", desc := "(I)I" } : MethodName) ∈ lw_tbl := List.mem_of_getElem? (i := 1158) (by decide +kernel)
theorem qw_1119 : Cond.instanceMethod ({ cls := "SpokenMenusModel", name := "ticksOf", desc := "(I)I" } : MethodName) ∈ lw_tbl := List.mem_of_getElem? (i := 1160) (by decide +kernel)
theorem qw_1120 : Cond.code ({ cls := "SpokenMenusModel", name := "ticksOf", desc := "(I)I" } : MethodName) prog_13_method_53_code 4 (Option.some FieldType.int) ∈ lw_tbl := List.mem_of_getElem? (i := 1161) (by decide +kernel)
theorem qp_0 : Cond.selects "SpokenMenus$Ways" ({ cls := "SpokenMenus$Ways", name := "leastAt", desc := "(LSpokenMenus$Place;LSpokenMenus$Caller;)I" } : MethodName) ({ cls := "SpokenMenus$Ways", name := "leastAt", desc := "(LSpokenMenus$Place;LSpokenMenus$Caller;)I" } : MethodName) ∈ lw_tbl := List.mem_of_getElem? (i := 0) (by decide +kernel)
theorem qp_1 : Cond.selects "SpokenMenus$Ways" ({ cls := "SpokenMenus$Ways", name := "leastAtMenu", desc := "(LSpokenMenus$Place;)I" } : MethodName) ({ cls := "SpokenMenus$Ways", name := "leastAtMenu", desc := "(LSpokenMenus$Place;)I" } : MethodName) ∈ lw_tbl := List.mem_of_getElem? (i := 1) (by decide +kernel)
theorem qp_2 : Cond.selects "SpokenMenus$Walk" ({ cls := "SpokenMenus$Walk", name := "begin", desc := "()V" } : MethodName) ({ cls := "SpokenMenus$Walk", name := "begin", desc := "()V" } : MethodName) ∈ lw_tbl := List.mem_of_getElem? (i := 2) (by decide +kernel)
theorem qp_3 : Cond.selects "SpokenMenus$Walk" ({ cls := "SpokenMenus$Walk", name := "come", desc := "(II)V" } : MethodName) ({ cls := "SpokenMenus$Walk", name := "come", desc := "(II)V" } : MethodName) ∈ lw_tbl := List.mem_of_getElem? (i := 3) (by decide +kernel)
theorem qp_4 : Cond.selects "SpokenMenus$Walk" ({ cls := "SpokenMenus$Walk", name := "pass", desc := "(LSpokenMenus$Place;LSpokenMenus$Ways;LSpokenMenus$Caller;)I" } : MethodName) ({ cls := "SpokenMenus$Walk", name := "pass", desc := "(LSpokenMenus$Place;LSpokenMenus$Ways;LSpokenMenus$Caller;)I" } : MethodName) ∈ lw_tbl := List.mem_of_getElem? (i := 4) (by decide +kernel)
theorem qp_5 : Cond.selects "SpokenMenus$Walk" ({ cls := "SpokenMenus$Walk", name := "passMenu", desc := "(LSpokenMenus$Place;LSpokenMenus$Ways;LSpokenMenus$Caller;)I" } : MethodName) ({ cls := "SpokenMenus$Walk", name := "passMenu", desc := "(LSpokenMenus$Place;LSpokenMenus$Ways;LSpokenMenus$Caller;)I" } : MethodName) ∈ lw_tbl := List.mem_of_getElem? (i := 5) (by decide +kernel)
theorem qp_6 : Cond.selects "SpokenMenus$Walk" ({ cls := "SpokenMenus$Walk", name := "spend", desc := "(ILSpokenMenus$Caller;)V" } : MethodName) ({ cls := "SpokenMenus$Walk", name := "spend", desc := "(ILSpokenMenus$Caller;)V" } : MethodName) ∈ lw_tbl := List.mem_of_getElem? (i := 6) (by decide +kernel)
theorem qp_7 : Cond.selects "SpokenMenus$Walk" ({ cls := "SpokenMenus$Walk", name := "press", desc := "(ILSpokenMenus$Caller;)V" } : MethodName) ({ cls := "SpokenMenus$Walk", name := "press", desc := "(ILSpokenMenus$Caller;)V" } : MethodName) ∈ lw_tbl := List.mem_of_getElem? (i := 7) (by decide +kernel)
theorem qp_8 : Cond.selects "SpokenMenus$Walk" ({ cls := "SpokenMenus$Walk", name := "finish", desc := "(I)V" } : MethodName) ({ cls := "SpokenMenus$Walk", name := "finish", desc := "(I)V" } : MethodName) ∈ lw_tbl := List.mem_of_getElem? (i := 8) (by decide +kernel)
theorem qp_9 : Cond.selects "SpokenMenus$Traps" ({ cls := "SpokenMenus$Traps", name := "spread", desc := "(LSpokenMenus$Place;II)Z" } : MethodName) ({ cls := "SpokenMenus$Traps", name := "spread", desc := "(LSpokenMenus$Place;II)Z" } : MethodName) ∈ lw_tbl := List.mem_of_getElem? (i := 9) (by decide +kernel)
theorem qp_10 : Cond.selects "SpokenMenus$Traps" ({ cls := "SpokenMenus$Traps", name := "isTrap", desc := "(I)Z" } : MethodName) ({ cls := "SpokenMenus$Traps", name := "isTrap", desc := "(I)Z" } : MethodName) ∈ lw_tbl := List.mem_of_getElem? (i := 10) (by decide +kernel)
theorem qp_11 : Cond.selects "SpokenMenus" ({ cls := "SpokenMenus", name := "countListeners", desc := "(ILSpokenMenus$Place;)V" } : MethodName) ({ cls := "SpokenMenus", name := "countListeners", desc := "(ILSpokenMenus$Place;)V" } : MethodName) ∈ lw_tbl := List.mem_of_getElem? (i := 11) (by decide +kernel)
theorem qp_12 : Cond.selects "SpokenMenus$Ordering" ({ cls := "SpokenMenus$Ordering", name := "goesAhead", desc := "(LSpokenMenus$Place;II)Z" } : MethodName) ({ cls := "SpokenMenus$Ordering", name := "goesAhead", desc := "(LSpokenMenus$Place;II)Z" } : MethodName) ∈ lw_tbl := List.mem_of_getElem? (i := 12) (by decide +kernel)
theorem qp_13 : Cond.selects "SpokenMenus$Planner" ({ cls := "SpokenMenus$Planner", name := "planMenu", desc := "(I)V" } : MethodName) ({ cls := "SpokenMenus$Planner", name := "planMenu", desc := "(I)V" } : MethodName) ∈ lw_tbl := List.mem_of_getElem? (i := 13) (by decide +kernel)
theorem qp_14 : Cond.selects "SpokenMenus$Planner" ({ cls := "SpokenMenus$Planner", name := "costOfLine", desc := "(II)I" } : MethodName) ({ cls := "SpokenMenus$Planner", name := "costOfLine", desc := "(II)I" } : MethodName) ∈ lw_tbl := List.mem_of_getElem? (i := 14) (by decide +kernel)
theorem qp_15 : Cond.selects "SpokenMenus$Planner" ({ cls := "SpokenMenus$Planner", name := "planRest", desc := "(II)V" } : MethodName) ({ cls := "SpokenMenus$Planner", name := "planRest", desc := "(II)V" } : MethodName) ∈ lw_tbl := List.mem_of_getElem? (i := 15) (by decide +kernel)
theorem qp_16 : Cond.selects "SpokenMenusModel" ({ cls := "SpokenMenusModel", name := "newPlace", desc := "(IIII)I" } : MethodName) ({ cls := "SpokenMenusModel", name := "newPlace", desc := "(IIII)I" } : MethodName) ∈ lw_tbl := List.mem_of_getElem? (i := 16) (by decide +kernel)
theorem qp_17 : Cond.selects "SpokenMenusModel" ({ cls := "SpokenMenusModel", name := "isMenu", desc := "(I)Z" } : MethodName) ({ cls := "SpokenMenusModel", name := "isMenu", desc := "(I)Z" } : MethodName) ∈ lw_tbl := List.mem_of_getElem? (i := 17) (by decide +kernel)
theorem qp_18 : Cond.selects "SpokenMenusModel" ({ cls := "SpokenMenusModel", name := "isPlace", desc := "(I)Z" } : MethodName) ({ cls := "SpokenMenusModel", name := "isPlace", desc := "(I)Z" } : MethodName) ∈ lw_tbl := List.mem_of_getElem? (i := 18) (by decide +kernel)
theorem qp_19 : Cond.selects "SpokenMenusModel" ({ cls := "SpokenMenusModel", name := "isLine", desc := "(II)Z" } : MethodName) ({ cls := "SpokenMenusModel", name := "isLine", desc := "(II)Z" } : MethodName) ∈ lw_tbl := List.mem_of_getElem? (i := 19) (by decide +kernel)
theorem qp_20 : Cond.selects "SpokenMenusModel" ({ cls := "SpokenMenusModel", name := "swapAt", desc := "(II)V" } : MethodName) ({ cls := "SpokenMenusModel", name := "swapAt", desc := "(II)V" } : MethodName) ∈ lw_tbl := List.mem_of_getElem? (i := 20) (by decide +kernel)
theorem qp_21 : Cond.selects "SpokenMenusModel" ({ cls := "SpokenMenusModel", name := "goThrough", desc := "(IIIIZ)I" } : MethodName) ({ cls := "SpokenMenusModel", name := "goThrough", desc := "(IIIIZ)I" } : MethodName) ∈ lw_tbl := List.mem_of_getElem? (i := 21) (by decide +kernel)
theorem qp_22 : Cond.selects "SpokenMenusModel" ({ cls := "SpokenMenusModel", name := "layLeast", desc := "()V" } : MethodName) ({ cls := "SpokenMenusModel", name := "layLeast", desc := "()V" } : MethodName) ∈ lw_tbl := List.mem_of_getElem? (i := 22) (by decide +kernel)
theorem qp_23 : Cond.selects "SpokenMenusModel" ({ cls := "SpokenMenusModel", name := "leastAt", desc := "(I)I" } : MethodName) ({ cls := "SpokenMenusModel", name := "leastAt", desc := "(I)I" } : MethodName) ∈ lw_tbl := List.mem_of_getElem? (i := 23) (by decide +kernel)
theorem qp_24 : Cond.selects "SpokenMenusModel" ({ cls := "SpokenMenusModel", name := "isServed", desc := "(I)Z" } : MethodName) ({ cls := "SpokenMenusModel", name := "isServed", desc := "(I)Z" } : MethodName) ∈ lw_tbl := List.mem_of_getElem? (i := 24) (by decide +kernel)
theorem qp_25 : Cond.selects "SpokenMenusModel" ({ cls := "SpokenMenusModel", name := "through", desc := "(II)I" } : MethodName) ({ cls := "SpokenMenusModel", name := "through", desc := "(II)I" } : MethodName) ∈ lw_tbl := List.mem_of_getElem? (i := 25) (by decide +kernel)
theorem qp_26 : Cond.selects "SpokenMenusModel" ({ cls := "SpokenMenusModel", name := "leastOf", desc := "(I)I" } : MethodName) ({ cls := "SpokenMenusModel", name := "leastOf", desc := "(I)I" } : MethodName) ∈ lw_tbl := List.mem_of_getElem? (i := 26) (by decide +kernel)
theorem qp_27 : Cond.selects "SpokenMenusModel" ({ cls := "SpokenMenusModel", name := "isOpen", desc := "(I)Z" } : MethodName) ({ cls := "SpokenMenusModel", name := "isOpen", desc := "(I)Z" } : MethodName) ∈ lw_tbl := List.mem_of_getElem? (i := 27) (by decide +kernel)
theorem qp_28 : Cond.selects "SpokenMenusModel" ({ cls := "SpokenMenusModel", name := "isRight", desc := "(I)Z" } : MethodName) ({ cls := "SpokenMenusModel", name := "isRight", desc := "(I)Z" } : MethodName) ∈ lw_tbl := List.mem_of_getElem? (i := 28) (by decide +kernel)
theorem qp_29 : Cond.selects "SpokenMenusModel" ({ cls := "SpokenMenusModel", name := "heard", desc := "(I)I" } : MethodName) ({ cls := "SpokenMenusModel", name := "heard", desc := "(I)I" } : MethodName) ∈ lw_tbl := List.mem_of_getElem? (i := 29) (by decide +kernel)
theorem qp_30 : Cond.selects "SpokenMenusModel" ({ cls := "SpokenMenusModel", name := "comes", desc := "(I)V" } : MethodName) ({ cls := "SpokenMenusModel", name := "comes", desc := "(I)V" } : MethodName) ∈ lw_tbl := List.mem_of_getElem? (i := 30) (by decide +kernel)
theorem qp_31 : Cond.selects "SpokenMenusModel" ({ cls := "SpokenMenusModel", name := "step", desc := "(Z)I" } : MethodName) ({ cls := "SpokenMenusModel", name := "step", desc := "(Z)I" } : MethodName) ∈ lw_tbl := List.mem_of_getElem? (i := 31) (by decide +kernel)
theorem qp_32 : Cond.selects "SpokenMenusModel" ({ cls := "SpokenMenusModel", name := "goOn", desc := "(IZ)I" } : MethodName) ({ cls := "SpokenMenusModel", name := "goOn", desc := "(IZ)I" } : MethodName) ∈ lw_tbl := List.mem_of_getElem? (i := 32) (by decide +kernel)
theorem qp_33 : Cond.selects "SpokenMenusModel" ({ cls := "SpokenMenusModel", name := "press", desc := "(I)V" } : MethodName) ({ cls := "SpokenMenusModel", name := "press", desc := "(I)V" } : MethodName) ∈ lw_tbl := List.mem_of_getElem? (i := 33) (by decide +kernel)
theorem qp_34 : Cond.selects "SpokenMenusModel" ({ cls := "SpokenMenusModel", name := "layTraps", desc := "()V" } : MethodName) ({ cls := "SpokenMenusModel", name := "layTraps", desc := "()V" } : MethodName) ∈ lw_tbl := List.mem_of_getElem? (i := 34) (by decide +kernel)
theorem qp_35 : Cond.selects "SpokenMenusModel" ({ cls := "SpokenMenusModel", name := "leads", desc := "(I[Z)Z" } : MethodName) ({ cls := "SpokenMenusModel", name := "leads", desc := "(I[Z)Z" } : MethodName) ∈ lw_tbl := List.mem_of_getElem? (i := 35) (by decide +kernel)
theorem qp_36 : Cond.selects "SpokenMenusModel" ({ cls := "SpokenMenusModel", name := "callOf", desc := "(I)I" } : MethodName) ({ cls := "SpokenMenusModel", name := "callOf", desc := "(I)I" } : MethodName) ∈ lw_tbl := List.mem_of_getElem? (i := 36) (by decide +kernel)
theorem qp_37 : Cond.selects "SpokenMenusModel" ({ cls := "SpokenMenusModel", name := "layOrder", desc := "(I)V" } : MethodName) ({ cls := "SpokenMenusModel", name := "layOrder", desc := "(I)V" } : MethodName) ∈ lw_tbl := List.mem_of_getElem? (i := 37) (by decide +kernel)
theorem qp_38 : Cond.selects "SpokenMenusModel" ({ cls := "SpokenMenusModel", name := "leastLine", desc := "(IIZ)I" } : MethodName) ({ cls := "SpokenMenusModel", name := "leastLine", desc := "(IIZ)I" } : MethodName) ∈ lw_tbl := List.mem_of_getElem? (i := 38) (by decide +kernel)
theorem qp_39 : Cond.selects "SpokenMenusModel" ({ cls := "SpokenMenusModel", name := "lineCost", desc := "(III)I" } : MethodName) ({ cls := "SpokenMenusModel", name := "lineCost", desc := "(III)I" } : MethodName) ∈ lw_tbl := List.mem_of_getElem? (i := 39) (by decide +kernel)
theorem qp_40 : Cond.selects "SpokenMenusModel" ({ cls := "SpokenMenusModel", name := "ticksOf", desc := "(I)I" } : MethodName) ({ cls := "SpokenMenusModel", name := "ticksOf", desc := "(I)I" } : MethodName) ∈ lw_tbl := List.mem_of_getElem? (i := 40) (by decide +kernel)
end
section
section
variable {p : Program} {l : Launch} {e : Env} {R : Room} {s : State} {m : MethodId} {args : Array Value} {below : List Frame} {meth : Method} {c : Code} {H : Heap} {locs : List Loc} {cells slots : Nat} {Q : State → Prop}
variable {cc : ByteArray} {pc nL : Nat} {ls : Array Slot} {rest : List Value} {D : va_G} {cA : Nat → ClassId} {A : Nat → Prop} {a : Nat} {h : Hp}
theorem pf_X0_7 (cx : CallFix p m c cc nL s args tbG RX0) (hB : hp_B D cA A s h H locs) (hnm : meth.name = "<init>") (hka : h.1 a = 1) {x : Int32} (hdg : decode cc pc = .ok (.putfield 7, 3)) (kk : ∀ (H1 : Heap) (locs1 : List Loc), hp_B D cA A s (hp_si h a 0 x) H1 locs1 → W p l e R s m args below meth c H1 locs1 cells slots Q (F0 m (pc + 3) ls rest)) : W p l e R s m args below meth c H locs cells slots Q (F0 m pc ls (.int x :: .ref a :: rest)) :=
  hp_putX cx hB (ci := 0) 0 tyX0 tyX0_ok nmX0 rfl inX0 (by decide) rfl (by decide) (Or.inr ⟨rfl, hnm, rfl⟩) qw_421 hka (v := .int x) (hp_like_si h a 0 x) (hp_fs_si (by decide) rfl) rfl rfl hdg kk
theorem pf_X0_13 (cx : CallFix p m c cc nL s args tbG RX0) (hB : hp_B D cA A s h H locs) (hnm : meth.name = "<init>") (hka : h.1 a = 1) {x : Int32} (hdg : decode cc pc = .ok (.putfield 13, 3)) (kk : ∀ (H1 : Heap) (locs1 : List Loc), hp_B D cA A s (hp_si h a 1 x) H1 locs1 → W p l e R s m args below meth c H1 locs1 cells slots Q (F0 m (pc + 3) ls rest)) : W p l e R s m args below meth c H locs cells slots Q (F0 m pc ls (.int x :: .ref a :: rest)) :=
  hp_putX cx hB (ci := 0) 1 tyX0 tyX0_ok nmX0 rfl inX0 (by decide) rfl (by decide) (Or.inr ⟨rfl, hnm, rfl⟩) qw_425 hka (v := .int x) (hp_like_si h a 1 x) (hp_fs_si (by decide) rfl) rfl rfl hdg kk
theorem pf_X0_16 (cx : CallFix p m c cc nL s args tbG RX0) (hB : hp_B D cA A s h H locs) (hnm : meth.name = "<init>") (hka : h.1 a = 1) {x : Int32} (hdg : decode cc pc = .ok (.putfield 16, 3)) (kk : ∀ (H1 : Heap) (locs1 : List Loc), hp_B D cA A s (hp_si h a 2 x) H1 locs1 → W p l e R s m args below meth c H1 locs1 cells slots Q (F0 m (pc + 3) ls rest)) : W p l e R s m args below meth c H locs cells slots Q (F0 m pc ls (.int x :: .ref a :: rest)) :=
  hp_putX cx hB (ci := 0) 2 tyX0 tyX0_ok nmX0 rfl inX0 (by decide) rfl (by decide) (Or.inr ⟨rfl, hnm, rfl⟩) qw_428 hka (v := .int x) (hp_like_si h a 2 x) (hp_fs_si (by decide) rfl) rfl rfl hdg kk
theorem pf_X0_19 (cx : CallFix p m c cc nL s args tbG RX0) (hB : hp_B D cA A s h H locs) (hnm : meth.name = "<init>") (hka : h.1 a = 1) {x : Int32} (hdg : decode cc pc = .ok (.putfield 19, 3)) (kk : ∀ (H1 : Heap) (locs1 : List Loc), hp_B D cA A s (hp_si h a 3 x) H1 locs1 → W p l e R s m args below meth c H1 locs1 cells slots Q (F0 m (pc + 3) ls rest)) : W p l e R s m args below meth c H locs cells slots Q (F0 m pc ls (.int x :: .ref a :: rest)) :=
  hp_putX cx hB (ci := 0) 3 tyX0 tyX0_ok nmX0 rfl inX0 (by decide) rfl (by decide) (Or.inr ⟨rfl, hnm, rfl⟩) qw_430 hka (v := .int x) (hp_like_si h a 3 x) (hp_fs_si (by decide) rfl) rfl rfl hdg kk
theorem pf_X0_22 (cx : CallFix p m c cc nL s args tbG RX0) (hB : hp_B D cA A s h H locs) (hnm : meth.name = "<init>") (hka : h.1 a = 1) {x : Int32} (hz : zb x = true) (hdg : decode cc pc = .ok (.putfield 22, 3)) (kk : ∀ (H1 : Heap) (locs1 : List Loc), hp_B D cA A s (hp_si h a 4 x) H1 locs1 → W p l e R s m args below meth c H1 locs1 cells slots Q (F0 m (pc + 3) ls rest)) : W p l e R s m args below meth c H locs cells slots Q (F0 m pc ls (.int x :: .ref a :: rest)) :=
  hp_putX cx hB (ci := 0) 4 tyX0 tyX0_ok nmX0 rfl inX0 (by decide) rfl (by decide) (Or.inr ⟨rfl, hnm, rfl⟩) qw_433 hka (v := .int x) (hp_like_si h a 4 x) (hp_fs_si (by decide) rfl) (zb_nar hz) (zb_fit hz) hdg kk
end
abbrev yX0_init : MethodName := ⟨"SpokenMenus$Caller", "<init>", "(IIIIZ)V"⟩
theorem dX0_init_0 : decode prog_2_method_1_code 0 = .ok (.aload_n 0, 1) := by decide +kernel
theorem dX0_init_1 : decode prog_2_method_1_code 1 = .ok (.invokespecial 1, 3) := by decide +kernel
theorem dX0_init_4 : decode prog_2_method_1_code 4 = .ok (.aload_n 0, 1) := by decide +kernel
theorem dX0_init_5 : decode prog_2_method_1_code 5 = .ok (.iload_n 1, 1) := by decide +kernel
theorem dX0_init_6 : decode prog_2_method_1_code 6 = .ok (.putfield 7, 3) := by decide +kernel
theorem dX0_init_9 : decode prog_2_method_1_code 9 = .ok (.aload_n 0, 1) := by decide +kernel
theorem dX0_init_10 : decode prog_2_method_1_code 10 = .ok (.iload_n 2, 1) := by decide +kernel
theorem dX0_init_11 : decode prog_2_method_1_code 11 = .ok (.putfield 13, 3) := by decide +kernel
theorem dX0_init_14 : decode prog_2_method_1_code 14 = .ok (.aload_n 0, 1) := by decide +kernel
theorem dX0_init_15 : decode prog_2_method_1_code 15 = .ok (.iload_n 3, 1) := by decide +kernel
theorem dX0_init_16 : decode prog_2_method_1_code 16 = .ok (.putfield 16, 3) := by decide +kernel
theorem dX0_init_19 : decode prog_2_method_1_code 19 = .ok (.aload_n 0, 1) := by decide +kernel
theorem dX0_init_20 : decode prog_2_method_1_code 20 = .ok (.iload 4, 2) := by decide +kernel
theorem dX0_init_22 : decode prog_2_method_1_code 22 = .ok (.putfield 19, 3) := by decide +kernel
theorem dX0_init_25 : decode prog_2_method_1_code 25 = .ok (.aload_n 0, 1) := by decide +kernel
theorem dX0_init_26 : decode prog_2_method_1_code 26 = .ok (.iload 5, 2) := by decide +kernel
theorem dX0_init_28 : decode prog_2_method_1_code 28 = .ok (.putfield 22, 3) := by decide +kernel
theorem dX0_init_31 : decode prog_2_method_1_code 31 = .ok (.return_, 1) := by decide +kernel
abbrev rmX0_init : Room := { frames := 1, cells := 0, slots := 0, locals := 20 }
def fX0_init  (t0 : Nat) (v1 : Int32) (v2 : Int32) (v3 : Int32) (v4 : Int32) (v5 : Int32) (h : Hp) : Option (Unit × Hp) :=
  gk (h.1 t0) 1 <|
  nm (hp_si h t0 0 v1) fun g2 =>
  nm (hp_si g2 t0 1 v2) fun g4 =>
  nm (hp_si g4 t0 2 v3) fun g6 =>
  nm (hp_si g6 t0 3 v4) fun g8 =>
  gd (zb v5) <|
  nm (hp_si g8 t0 4 v5) fun g11 =>
  some ((), g11)
section
variable {p : Program} {l : Launch} {e : Env} {s : State} {m : MethodId} {args : Array Value} {below : List Frame} {meth : Method} {c : Code} {D : va_G} {cA : Nat → ClassId} {h0 h9 : Hp}
set_option maxHeartbeats 4000000 in
set_option maxRecDepth 100000 in
theorem tX0_init_0  (cx : CallFix p m c prog_2_method_1_code 6 s args tbG RX0) (hr : meth.sig.returnType = none) (hlk : meth.locks = false) (hnm : meth.name = "<init>")  (t0 : Nat) (v1 : Int32) (v2 : Int32) (v3 : Int32) (v4 : Int32) (v5 : Int32) (h : Hp) (H : Heap) (locs : List Loc) (ls : Array Slot) (hB : hp_B D cA (hp_A h0) s h H locs) (hl : lv_has ls 6 [(0, .ref t0), (1, .int v1), (2, .int v2), (3, .int v3), (4, .int v4), (5, .int v5)]) (hf : fX0_init  t0 v1 v2 v3 v4 v5 h = some ((), h9)) : W p l e rmX0_init s m args below meth c H locs 0 0 (MQ below (hp_Qv D cA h0 h9) args s 0 0 (hp_A h0)) (F0 m 0 ls []) := by
  obtain ⟨hx, hb, -⟩ := id cx
  unfold fX0_init at hf
  refine lv_aload_n hx hb dX0_init_0 rfl (lv_at hl 0 rfl) ?_
  refine W.objInit hx hb cx.2.2.2.1 (cx.2.2.2.2 _ (tb_in qw_420 rfl)) (cx.2.2.2.2 _ (tb_in qw_22 rfl)) (cx.2.2.2.2 _ (tb_in qw_23 rfl)) rfl (by rw [cx.2.2.1]; exact hl.1) rfl dX0_init_1 (Nat.le_of_ble_eq_true rfl) (Nat.le_of_ble_eq_true rfl) ?_
  refine W.eq (g2 := F0 m 4 ls []) rfl ?_
  refine lv_aload_n hx hb dX0_init_4 rfl (lv_at hl 0 rfl) ?_
  refine lv_iload_n hx hb dX0_init_5 rfl (lv_at hl 1 rfl) ?_
  obtain ⟨k1, hf⟩ := gk_ok hf
  obtain ⟨g2, eg2, hf⟩ := nm_ok hf
  refine pf_X0_7 cx hB hnm k1 dX0_init_6 (fun H locs hB => ?_)
  rw [← eg2] at hB
  refine lv_aload_n hx hb dX0_init_9 rfl (lv_at hl 0 rfl) ?_
  refine lv_iload_n hx hb dX0_init_10 rfl (lv_at hl 2 rfl) ?_
  have k3 : g2.1 t0 = 1 := by rw [eg2]; exact k1
  obtain ⟨g4, eg4, hf⟩ := nm_ok hf
  refine pf_X0_13 cx hB hnm k3 dX0_init_11 (fun H locs hB => ?_)
  rw [← eg4] at hB
  refine lv_aload_n hx hb dX0_init_14 rfl (lv_at hl 0 rfl) ?_
  refine lv_iload_n hx hb dX0_init_15 rfl (lv_at hl 3 rfl) ?_
  have k5 : g4.1 t0 = 1 := by rw [eg4]; exact k3
  obtain ⟨g6, eg6, hf⟩ := nm_ok hf
  refine pf_X0_16 cx hB hnm k5 dX0_init_16 (fun H locs hB => ?_)
  rw [← eg6] at hB
  refine lv_aload_n hx hb dX0_init_19 rfl (lv_at hl 0 rfl) ?_
  refine lv_iload hx hb dX0_init_20 (lv_at hl 4 rfl) ?_
  have k7 : g6.1 t0 = 1 := by rw [eg6]; exact k5
  obtain ⟨g8, eg8, hf⟩ := nm_ok hf
  refine pf_X0_19 cx hB hnm k7 dX0_init_22 (fun H locs hB => ?_)
  rw [← eg8] at hB
  refine lv_aload_n hx hb dX0_init_25 rfl (lv_at hl 0 rfl) ?_
  refine lv_iload hx hb dX0_init_26 (lv_at hl 5 rfl) ?_
  have k9 : g8.1 t0 = 1 := by rw [eg8]; exact k7
  obtain ⟨c10, hf⟩ := gd_ok hf
  obtain ⟨g11, eg11, hf⟩ := nm_ok hf
  refine pf_X0_22 cx hB hnm k9 c10 dX0_init_28 (fun H locs hB => ?_)
  rw [← eg11] at hB
  obtain ⟨-, rfl⟩ := rt_ok hf
  exact hp_vret cx hB hr hlk (Nat.le_of_ble_eq_true rfl) (Nat.le_of_ble_eq_true rfl) dX0_init_31
end
set_option maxHeartbeats 4000000 in
set_option maxRecDepth 100000 in
theorem cX0_init (l : Launch) (D : va_G) (cA : Nat → ClassId) (t0 : Nat) (v1 : Int32) (v2 : Int32) (v3 : Int32) (v4 : Int32) (v5 : Int32) (h : Hp) (_u : Unit) (h9 : Hp) (hf : fX0_init t0 v1 v2 v3 v4 v5 h = some (_u, h9)) : hp_M l yX0_init prog_2_method_1_code 6 none rmX0_init D cA h [.ref t0, .int v1, .int v2, .int v3, .int v4, .int v5] (hp_Qv D cA h h9) := by
  refine Met.ofW (cc := prog_2_method_1_code) (maxL := 6) (ret := none) (by decide) rfl ?_
  intro p e s m args below meth c s₁ B hml hv
  obtain ⟨rfl, hU⟩ := hv
  have hts := atoms_spec (ws := Cond.code yX0_init prog_2_method_1_code 6 none :: tbG) B.pre
  have hl := lv_entry ([.ref t0, .int v1, .int v2, .int v3, .int v4, .int v5]) (n := 6) (Nat.le_of_ble_eq_true rfl)
  rw [lg_entry_eq]
  generalize (lg_sl ([.ref t0, .int v1, .int v2, .int v3, .int v4, .int v5]) ++ List.replicate (6 - (lg_sl ([.ref t0, .int v1, .int v2, .int v3, .int v4, .int v5])).length) Slot.unset).toArray = ls at hl ⊢
  exact tX0_init_0 ⟨B.exec, B.bytes, hml, findClass_of_methodNamed B.named, fun w hw => hts w (List.mem_cons_of_mem _ hw)⟩ B.returns B.notSynchronized ((name_of_methodNamed B.named B.method).1) t0 v1 v2 v3 v4 v5 h _ _ _ (hp_B.entry hU) hl hf
section
variable {p : Program} {l : Launch} {e : Env} {R : Room} {s : State} {m : MethodId} {args : Array Value} {below : List Frame} {meth : Method} {c : Code} {H : Heap} {locs : List Loc} {cells slots : Nat} {Q : State → Prop}
variable {cc : ByteArray} {pc nL : Nat} {ls : Array Slot} {rest : List Value} {D : va_G} {cA : Nat → ClassId} {A : Nat → Prop} {a : Nat} {h : Hp}
theorem pf_X1_11 (cx : CallFix p m c cc nL s args tbG RX1) (hB : hp_B D cA A s h H locs) (hnm : meth.name = "<init>") (hka : h.1 a = 2) {b : Nat} (hdg : decode cc pc = .ok (.putfield 11, 3)) (kk : ∀ (H1 : Heap) (locs1 : List Loc), hp_B D cA A s (hp_sr h a 0 (some b)) H1 locs1 → W p l e R s m args below meth c H1 locs1 cells slots Q (F0 m (pc + 3) ls rest)) : W p l e R s m args below meth c H locs cells slots Q (F0 m pc ls (.ref b :: .ref a :: rest)) :=
  hp_putX cx hB (ci := 1) 0 tyX1 tyX1_ok nmX1 rfl inX1 (by decide) rfl (by decide) (Or.inr ⟨rfl, hnm, rfl⟩) qw_77 hka (v := va_rf (some b)) (hp_like_sr h a 0 (some b)) (hp_fs_sr (by decide) rfl) rfl rfl hdg kk
theorem pf_X1_17 (cx : CallFix p m c cc nL s args tbG RX1) (hB : hp_B D cA A s h H locs) (hnm : meth.name = "<init>") (hka : h.1 a = 2) {b : Nat} (hdg : decode cc pc = .ok (.putfield 17, 3)) (kk : ∀ (H1 : Heap) (locs1 : List Loc), hp_B D cA A s (hp_sr h a 1 (some b)) H1 locs1 → W p l e R s m args below meth c H1 locs1 cells slots Q (F0 m (pc + 3) ls rest)) : W p l e R s m args below meth c H locs cells slots Q (F0 m pc ls (.ref b :: .ref a :: rest)) :=
  hp_putX cx hB (ci := 1) 1 tyX1 tyX1_ok nmX1 rfl inX1 (by decide) rfl (by decide) (Or.inr ⟨rfl, hnm, rfl⟩) qw_79 hka (v := va_rf (some b)) (hp_like_sr h a 1 (some b)) (hp_fs_sr (by decide) rfl) rfl rfl hdg kk
theorem pf_X1_21 (cx : CallFix p m c cc nL s args tbG RX1) (hB : hp_B D cA A s h H locs) (hka : h.1 a = 2) {x : Int32} (hdg : decode cc pc = .ok (.putfield 21, 3)) (kk : ∀ (H1 : Heap) (locs1 : List Loc), hp_B D cA A s (hp_si h a 2 x) H1 locs1 → W p l e R s m args below meth c H1 locs1 cells slots Q (F0 m (pc + 3) ls rest)) : W p l e R s m args below meth c H locs cells slots Q (F0 m pc ls (.int x :: .ref a :: rest)) :=
  hp_putX cx hB (ci := 1) 2 tyX1 tyX1_ok nmX1 rfl inX1 (by decide) rfl (by decide) (Or.inl rfl) qw_81 hka (v := .int x) (hp_like_si h a 2 x) (hp_fs_si (by decide) rfl) rfl rfl hdg kk
end
abbrev yX1_init : MethodName := ⟨"SpokenMenus$Groups", "<init>", "()V"⟩
theorem dX1_init_0 : decode prog_3_method_1_code 0 = .ok (.aload_n 0, 1) := by decide +kernel
theorem dX1_init_1 : decode prog_3_method_1_code 1 = .ok (.invokespecial 3, 3) := by decide +kernel
theorem dX1_init_4 : decode prog_3_method_1_code 4 = .ok (.aload_n 0, 1) := by decide +kernel
theorem dX1_init_5 : decode prog_3_method_1_code 5 = .ok (.bipush 12, 2) := by decide +kernel
theorem dX1_init_7 : decode prog_3_method_1_code 7 = .ok (.anewarray 9, 3) := by decide +kernel
theorem dX1_init_10 : decode prog_3_method_1_code 10 = .ok (.putfield 11, 3) := by decide +kernel
theorem dX1_init_13 : decode prog_3_method_1_code 13 = .ok (.aload_n 0, 1) := by decide +kernel
theorem dX1_init_14 : decode prog_3_method_1_code 14 = .ok (.bipush 12, 2) := by decide +kernel
theorem dX1_init_16 : decode prog_3_method_1_code 16 = .ok (.newarray .int, 2) := by decide +kernel
theorem dX1_init_18 : decode prog_3_method_1_code 18 = .ok (.putfield 17, 3) := by decide +kernel
theorem dX1_init_21 : decode prog_3_method_1_code 21 = .ok (.aload_n 0, 1) := by decide +kernel
theorem dX1_init_22 : decode prog_3_method_1_code 22 = .ok (.iconst 0, 1) := by decide +kernel
theorem dX1_init_23 : decode prog_3_method_1_code 23 = .ok (.putfield 21, 3) := by decide +kernel
theorem dX1_init_26 : decode prog_3_method_1_code 26 = .ok (.return_, 1) := by decide +kernel
abbrev rmX1_init : Room := { frames := 1, cells := 2, slots := 24, locals := 20 }
def fX1_init  (t0 : Nat) (h : Hp) : Option (Unit × Hp) :=
  nm h.2.2.2.2 fun a1 =>
  nm (hp_nw h 15 12) fun g2 =>
  gk (g2.1 t0) 2 <|
  nm (hp_sr g2 t0 0 (some a1)) fun g5 =>
  nm g5.2.2.2.2 fun a6 =>
  nm (hp_nw g5 13 12) fun g7 =>
  gk (g7.1 t0) 2 <|
  nm (hp_sr g7 t0 1 (some a6)) fun g10 =>
  nm (hp_si g10 t0 2 0) fun g12 =>
  some ((), g12)
section
variable {p : Program} {l : Launch} {e : Env} {s : State} {m : MethodId} {args : Array Value} {below : List Frame} {meth : Method} {c : Code} {D : va_G} {cA : Nat → ClassId} {h0 h9 : Hp}
set_option maxHeartbeats 4000000 in
set_option maxRecDepth 100000 in
theorem tX1_init_0  (cx : CallFix p m c prog_3_method_1_code 1 s args tbG RX1) (hr : meth.sig.returnType = none) (hlk : meth.locks = false) (hnm : meth.name = "<init>")  (t0 : Nat) (h : Hp) (H : Heap) (locs : List Loc) (ls : Array Slot) (hB : hp_B D cA (hp_A h0) s h H locs) (hl : lv_has ls 1 [(0, .ref t0)]) (hf : fX1_init  t0 h = some ((), h9)) : W p l e rmX1_init s m args below meth c H locs 0 0 (MQ below (hp_Qv D cA h0 h9) args s 2 24 (hp_A h0)) (F0 m 0 ls []) := by
  obtain ⟨hx, hb, -⟩ := id cx
  unfold fX1_init at hf
  refine lv_aload_n hx hb dX1_init_0 rfl (lv_at hl 0 rfl) ?_
  refine W.objInit hx hb cx.2.2.2.1 (cx.2.2.2.2 _ (tb_in qw_74 rfl)) (cx.2.2.2.2 _ (tb_in qw_22 rfl)) (cx.2.2.2.2 _ (tb_in qw_23 rfl)) rfl (by rw [cx.2.2.1]; exact hl.1) rfl dX1_init_1 (Nat.le_of_ble_eq_true rfl) (Nat.le_of_ble_eq_true rfl) ?_
  refine W.eq (g2 := F0 m 4 ls []) rfl ?_
  refine lv_aload_n hx hb dX1_init_4 rfl (lv_at hl 0 rfl) ?_
  refine lv_bipush (v := 12) hx hb dX1_init_5 (by decide) ?_
  obtain ⟨a1, ea1, hf⟩ := nm_ok hf
  obtain ⟨g2, eg2, hf⟩ := nm_ok hf
  refine hp_newq cx hB 15 (N' := 12) (by decide) rfl qw_75 (fun h9 => h9.2.1) ea1 (by decide) (by decide) (by decide) (Nat.le_of_ble_eq_true rfl) (Nat.le_of_ble_eq_true rfl) dX1_init_7 (fun H hB => ?_)
  rw [← eg2] at hB
  have k3 : g2.1 a1 = 15 := by rw [eg2, ea1]; exact va_up_self _ _ _
  obtain ⟨k4, hf⟩ := gk_ok hf
  obtain ⟨g5, eg5, hf⟩ := nm_ok hf
  refine pf_X1_11 cx hB hnm k4 dX1_init_10 (fun H locs hB => ?_)
  rw [← eg5] at hB
  refine lv_aload_n hx hb dX1_init_13 rfl (lv_at hl 0 rfl) ?_
  refine lv_bipush (v := 12) hx hb dX1_init_14 (by decide) ?_
  obtain ⟨a6, ea6, hf⟩ := nm_ok hf
  obtain ⟨g7, eg7, hf⟩ := nm_ok hf
  refine hp_newa cx hB 13 (N' := 12) (ty := .int) rfl (by decide) rfl (fun h9 => h9) rfl qw_54 ea6 (by decide) (by decide) (by decide) (Nat.le_of_ble_eq_true rfl) (Nat.le_of_ble_eq_true rfl) dX1_init_16 (fun H hB => ?_)
  rw [← eg7] at hB
  have k8 : g7.1 a6 = 13 := by rw [eg7, ea6]; exact va_up_self _ _ _
  obtain ⟨k9, hf⟩ := gk_ok hf
  obtain ⟨g10, eg10, hf⟩ := nm_ok hf
  refine pf_X1_17 cx hB hnm k9 dX1_init_18 (fun H locs hB => ?_)
  rw [← eg10] at hB
  refine lv_aload_n hx hb dX1_init_21 rfl (lv_at hl 0 rfl) ?_
  refine lv_iconst (v := 0) hx hb dX1_init_22 (by decide) ?_
  have k11 : g10.1 t0 = 2 := by rw [eg10]; exact k9
  obtain ⟨g12, eg12, hf⟩ := nm_ok hf
  refine pf_X1_21 cx hB k11 dX1_init_23 (fun H locs hB => ?_)
  rw [← eg12] at hB
  obtain ⟨-, rfl⟩ := rt_ok hf
  exact hp_vret cx hB hr hlk (Nat.le_of_ble_eq_true rfl) (Nat.le_of_ble_eq_true rfl) dX1_init_26
end
set_option maxHeartbeats 4000000 in
set_option maxRecDepth 100000 in
theorem cX1_init (l : Launch) (D : va_G) (cA : Nat → ClassId) (t0 : Nat) (h : Hp) (_u : Unit) (h9 : Hp) (hf : fX1_init t0 h = some (_u, h9)) : hp_M l yX1_init prog_3_method_1_code 1 none rmX1_init D cA h [.ref t0] (hp_Qv D cA h h9) := by
  refine Met.ofW (cc := prog_3_method_1_code) (maxL := 1) (ret := none) (by decide) rfl ?_
  intro p e s m args below meth c s₁ B hml hv
  obtain ⟨rfl, hU⟩ := hv
  have hts := atoms_spec (ws := Cond.code yX1_init prog_3_method_1_code 1 none :: tbG) B.pre
  have hl := lv_entry ([.ref t0]) (n := 1) (Nat.le_of_ble_eq_true rfl)
  rw [lg_entry_eq]
  generalize (lg_sl ([.ref t0]) ++ List.replicate (1 - (lg_sl ([.ref t0])).length) Slot.unset).toArray = ls at hl ⊢
  exact tX1_init_0 ⟨B.exec, B.bytes, hml, findClass_of_methodNamed B.named, fun w hw => hts w (List.mem_cons_of_mem _ hw)⟩ B.returns B.notSynchronized ((name_of_methodNamed B.named B.method).1) t0 h _ _ _ (hp_B.entry hU) hl hf
section
variable {p : Program} {l : Launch} {e : Env} {R : Room} {s : State} {m : MethodId} {args : Array Value} {below : List Frame} {meth : Method} {c : Code} {H : Heap} {locs : List Loc} {cells slots : Nat} {Q : State → Prop}
variable {cc : ByteArray} {pc nL : Nat} {ls : Array Slot} {rest : List Value} {D : va_G} {cA : Nat → ClassId} {A : Nat → Prop} {a : Nat} {h : Hp}
theorem gf_X1_21 (cx : CallFix p m c cc nL s args tbG RX1) (hB : hp_B D cA A s h H locs) (hka : h.1 a = 2) (hdg : decode cc pc = .ok (.getfield 21, 3)) (kk : W p l e R s m args below meth c H locs cells slots Q (F0 m (pc + 3) ls (.int (h.2.2.1 a 2) :: rest))) : W p l e R s m args below meth c H locs cells slots Q (F0 m pc ls (.ref a :: rest)) :=
  hp_getI cx hB (ci := 1) 2 rfl inX1 (by decide) rfl (by decide) rfl qw_81 hka hdg kk
theorem gf_X1_11 (cx : CallFix p m c cc nL s args tbG RX1) (hB : hp_B D cA A s h H locs) (hka : h.1 a = 2) {b : Nat} (ho : h.2.2.2.1 a 0 = some b) (hdg : decode cc pc = .ok (.getfield 11, 3)) (kk : W p l e R s m args below meth c H locs cells slots Q (F0 m (pc + 3) ls (.ref b :: rest))) : W p l e R s m args below meth c H locs cells slots Q (F0 m pc ls (.ref a :: rest)) :=
  hp_getR cx hB (ci := 1) 0 rfl inX1 (by decide) rfl (by decide) rfl qw_77 hka (o := some b) ho.symm hdg kk
theorem gf_X1_17 (cx : CallFix p m c cc nL s args tbG RX1) (hB : hp_B D cA A s h H locs) (hka : h.1 a = 2) {b : Nat} (ho : h.2.2.2.1 a 1 = some b) (hdg : decode cc pc = .ok (.getfield 17, 3)) (kk : W p l e R s m args below meth c H locs cells slots Q (F0 m (pc + 3) ls (.ref b :: rest))) : W p l e R s m args below meth c H locs cells slots Q (F0 m pc ls (.ref a :: rest)) :=
  hp_getR cx hB (ci := 1) 1 rfl inX1 (by decide) rfl (by decide) rfl qw_79 hka (o := some b) ho.symm hdg kk
end
abbrev yX1_add : MethodName := ⟨"SpokenMenus$Groups", "add", "(ILSpokenMenus$Caller;)V"⟩
theorem dX1_add_0 : decode prog_3_method_2_code 0 = .ok (.aload_n 0, 1) := by decide +kernel
theorem dX1_add_1 : decode prog_3_method_2_code 1 = .ok (.getfield 21, 3) := by decide +kernel
theorem dX1_add_4 : decode prog_3_method_2_code 4 = .ok (.bipush 12, 2) := by decide +kernel
theorem dX1_add_6 : decode prog_3_method_2_code 6 = .ok (.if_icmp .ge 33, 3) := by decide +kernel
theorem dX1_add_9 : decode prog_3_method_2_code 9 = .ok (.aload_n 0, 1) := by decide +kernel
theorem dX1_add_10 : decode prog_3_method_2_code 10 = .ok (.getfield 11, 3) := by decide +kernel
theorem dX1_add_13 : decode prog_3_method_2_code 13 = .ok (.aload_n 0, 1) := by decide +kernel
theorem dX1_add_14 : decode prog_3_method_2_code 14 = .ok (.getfield 21, 3) := by decide +kernel
theorem dX1_add_17 : decode prog_3_method_2_code 17 = .ok (.aload_n 2, 1) := by decide +kernel
theorem dX1_add_18 : decode prog_3_method_2_code 18 = .ok (.aastore, 1) := by decide +kernel
theorem dX1_add_19 : decode prog_3_method_2_code 19 = .ok (.aload_n 0, 1) := by decide +kernel
theorem dX1_add_20 : decode prog_3_method_2_code 20 = .ok (.getfield 17, 3) := by decide +kernel
theorem dX1_add_23 : decode prog_3_method_2_code 23 = .ok (.aload_n 0, 1) := by decide +kernel
theorem dX1_add_24 : decode prog_3_method_2_code 24 = .ok (.getfield 21, 3) := by decide +kernel
theorem dX1_add_27 : decode prog_3_method_2_code 27 = .ok (.iload_n 1, 1) := by decide +kernel
theorem dX1_add_28 : decode prog_3_method_2_code 28 = .ok (.iastore, 1) := by decide +kernel
theorem dX1_add_29 : decode prog_3_method_2_code 29 = .ok (.aload_n 0, 1) := by decide +kernel
theorem dX1_add_30 : decode prog_3_method_2_code 30 = .ok (.dup, 1) := by decide +kernel
theorem dX1_add_31 : decode prog_3_method_2_code 31 = .ok (.getfield 21, 3) := by decide +kernel
theorem dX1_add_34 : decode prog_3_method_2_code 34 = .ok (.iconst 1, 1) := by decide +kernel
theorem dX1_add_35 : decode prog_3_method_2_code 35 = .ok (.iadd, 1) := by decide +kernel
theorem dX1_add_36 : decode prog_3_method_2_code 36 = .ok (.putfield 21, 3) := by decide +kernel
theorem dX1_add_39 : decode prog_3_method_2_code 39 = .ok (.return_, 1) := by decide +kernel
abbrev rmX1_add : Room := { frames := 0, cells := 0, slots := 0, locals := 0 }
def fX1_add  (t0 : Nat) (v1 : Int32) (w2 : Option Nat) (h : Hp) : Option (Unit × Hp) :=
  gk (h.1 t0) 2 <|
  if 12 ≤ (h.2.2.1 t0 2) then
  (some ((), h))
  else
  (bd (h.2.2.2.1 t0 0) fun a3 =>
  bd w2 fun a5 =>
  gk (h.1 a3) 15 <|
  gk (h.1 a5) 1 <|
  gd (ix (h.2.2.1 t0 2) (h.2.1 a3)) <|
  nm (hp_sr h a3 (h.2.2.1 t0 2).toNatClampNeg (some a5)) fun g9 =>
  bd (g9.2.2.2.1 t0 1) fun a11 =>
  gk (g9.1 a11) 13 <|
  gd (ix (g9.2.2.1 t0 2) (g9.2.1 a11)) <|
  nm (hp_si g9 a11 (g9.2.2.1 t0 2).toNatClampNeg v1) fun g15 =>
  nm (hp_si g15 t0 2 ((g15.2.2.1 t0 2) + 1)) fun g17 =>
  some ((), g17))
section
variable {p : Program} {l : Launch} {e : Env} {s : State} {m : MethodId} {args : Array Value} {below : List Frame} {meth : Method} {c : Code} {D : va_G} {cA : Nat → ClassId} {h0 h9 : Hp}
set_option maxHeartbeats 4000000 in
set_option maxRecDepth 100000 in
theorem tX1_add_0  (cx : CallFix p m c prog_3_method_2_code 3 s args tbG RX1) (hr : meth.sig.returnType = none) (hlk : meth.locks = false)  (t0 : Nat) (v1 : Int32) (w2 : Option Nat) (h : Hp) (H : Heap) (locs : List Loc) (ls : Array Slot) (hB : hp_B D cA (hp_A h0) s h H locs) (hl : lv_has ls 3 [(0, .ref t0), (1, .int v1), (2, va_rf w2)]) (hf : fX1_add  t0 v1 w2 h = some ((), h9)) : W p l e rmX1_add s m args below meth c H locs 0 0 (MQ below (hp_Qv D cA h0 h9) args s 0 0 (hp_A h0)) (F0 m 0 ls []) := by
  obtain ⟨hx, hb, -⟩ := id cx
  unfold fX1_add at hf
  refine lv_aload_n hx hb dX1_add_0 rfl (lv_at hl 0 rfl) ?_
  obtain ⟨k1, hf⟩ := gk_ok hf
  refine gf_X1_21 cx hB k1 dX1_add_1 ?_
  refine lv_bipush (v := 12) hx hb dX1_add_4 (by decide) ?_
  refine lv_icmp_ge (tgt := 39) hx hb dX1_add_6 (by decide) (fun c2 => ?_) (fun c2 => ?_)
  · replace hf := it_t c2 hf
    obtain ⟨-, rfl⟩ := rt_ok hf
    exact hp_vret cx hB hr hlk (Nat.le_of_ble_eq_true rfl) (Nat.le_of_ble_eq_true rfl) dX1_add_39
  · replace hf := it_f c2 hf
    refine lv_aload_n hx hb dX1_add_9 rfl (lv_at hl 0 rfl) ?_
    obtain ⟨a3, q4, hf⟩ := bd_ok hf
    refine gf_X1_11 cx hB k1 q4 dX1_add_10 ?_
    refine lv_aload_n hx hb dX1_add_13 rfl (lv_at hl 0 rfl) ?_
    refine gf_X1_21 cx hB k1 dX1_add_14 ?_
    refine lq_aload_n hx hb dX1_add_17 rfl (lv_at hl 2 rfl) ?_
    obtain ⟨a5, eo, hf⟩ := bd_ok hf
    subst eo
    obtain ⟨k6, hf⟩ := gk_ok hf
    obtain ⟨k7, hf⟩ := gk_ok hf
    obtain ⟨j8, hf⟩ := gd_ok hf
    obtain ⟨g9, eg9, hf⟩ := nm_ok hf
    refine hp_aast cx hB 15 0 (by decide) rfl rfl (by decide) k6 k7 j8 dX1_add_18 (fun H locs hB => ?_)
    rw [← eg9] at hB
    refine lv_aload_n hx hb dX1_add_19 rfl (lv_at hl 0 rfl) ?_
    have k10 : g9.1 t0 = 2 := by rw [eg9]; exact k1
    obtain ⟨a11, q12, hf⟩ := bd_ok hf
    refine gf_X1_17 cx hB k10 q12 dX1_add_20 ?_
    refine lv_aload_n hx hb dX1_add_23 rfl (lv_at hl 0 rfl) ?_
    refine gf_X1_21 cx hB k10 dX1_add_24 ?_
    refine lv_iload_n hx hb dX1_add_27 rfl (lv_at hl 1 rfl) ?_
    obtain ⟨k13, hf⟩ := gk_ok hf
    obtain ⟨j14, hf⟩ := gd_ok hf
    obtain ⟨g15, eg15, hf⟩ := nm_ok hf
    refine hp_iast cx hB k13 j14 dX1_add_28 (fun H locs hB => ?_)
    rw [← eg15] at hB
    refine lv_aload_n hx hb dX1_add_29 rfl (lv_at hl 0 rfl) ?_
    refine lv_dup hx hb dX1_add_30 rfl ?_
    have k16 : g15.1 t0 = 2 := by rw [eg15]; exact k10
    refine gf_X1_21 cx hB k16 dX1_add_31 ?_
    refine lv_iconst (v := 1) hx hb dX1_add_34 (by decide) ?_
    refine lv_iadd hx hb dX1_add_35 ?_
    obtain ⟨g17, eg17, hf⟩ := nm_ok hf
    refine pf_X1_21 cx hB k16 dX1_add_36 (fun H locs hB => ?_)
    rw [← eg17] at hB
    obtain ⟨-, rfl⟩ := rt_ok hf
    exact hp_vret cx hB hr hlk (Nat.le_of_ble_eq_true rfl) (Nat.le_of_ble_eq_true rfl) dX1_add_39
end
set_option maxHeartbeats 4000000 in
set_option maxRecDepth 100000 in
theorem cX1_add (l : Launch) (D : va_G) (cA : Nat → ClassId) (t0 : Nat) (v1 : Int32) (w2 : Option Nat) (h : Hp) (_u : Unit) (h9 : Hp) (hf : fX1_add t0 v1 w2 h = some (_u, h9)) : hp_M l yX1_add prog_3_method_2_code 3 none rmX1_add D cA h [.ref t0, .int v1, va_rf w2] (hp_Qv D cA h h9) := by
  refine Met.ofW (cc := prog_3_method_2_code) (maxL := 3) (ret := none) (by decide) rfl ?_
  intro p e s m args below meth c s₁ B hml hv
  obtain ⟨rfl, hU⟩ := hv
  have hts := atoms_spec (ws := Cond.code yX1_add prog_3_method_2_code 3 none :: tbG) B.pre
  have hl := lv_entry ([.ref t0, .int v1, va_rf w2]) (n := 3) (by simp [lg_sl, va_rf_cat, cat_i, cat_r, cat_n])
  rw [show lv_args 0 ([.ref t0, .int v1, va_rf w2]) = [(0, .ref t0), (1, .int v1), (2, va_rf w2)] by simp [lv_args, va_rf_cat, cat_i, cat_r, cat_n]] at hl
  rw [lg_entry_eq]
  generalize (lg_sl ([.ref t0, .int v1, va_rf w2]) ++ List.replicate (3 - (lg_sl ([.ref t0, .int v1, va_rf w2])).length) Slot.unset).toArray = ls at hl ⊢
  exact tX1_add_0 ⟨B.exec, B.bytes, hml, findClass_of_methodNamed B.named, fun w hw => hts w (List.mem_cons_of_mem _ hw)⟩ B.returns B.notSynchronized t0 v1 w2 h _ _ _ (hp_B.entry hU) hl hf
abbrev yX1_howManyCallers : MethodName := ⟨"SpokenMenus$Groups", "howManyCallers", "()I"⟩
theorem dX1_howManyCallers_0 : decode prog_3_method_3_code 0 = .ok (.iconst 0, 1) := by decide +kernel
theorem dX1_howManyCallers_1 : decode prog_3_method_3_code 1 = .ok (.istore_n 1, 1) := by decide +kernel
theorem dX1_howManyCallers_2 : decode prog_3_method_3_code 2 = .ok (.iconst 0, 1) := by decide +kernel
theorem dX1_howManyCallers_3 : decode prog_3_method_3_code 3 = .ok (.istore_n 2, 1) := by decide +kernel
theorem dX1_howManyCallers_4 : decode prog_3_method_3_code 4 = .ok (.iload_n 2, 1) := by decide +kernel
theorem dX1_howManyCallers_5 : decode prog_3_method_3_code 5 = .ok (.aload_n 0, 1) := by decide +kernel
theorem dX1_howManyCallers_6 : decode prog_3_method_3_code 6 = .ok (.getfield 21, 3) := by decide +kernel
theorem dX1_howManyCallers_9 : decode prog_3_method_3_code 9 = .ok (.if_icmp .ge 18, 3) := by decide +kernel
theorem dX1_howManyCallers_12 : decode prog_3_method_3_code 12 = .ok (.iload_n 1, 1) := by decide +kernel
theorem dX1_howManyCallers_13 : decode prog_3_method_3_code 13 = .ok (.aload_n 0, 1) := by decide +kernel
theorem dX1_howManyCallers_14 : decode prog_3_method_3_code 14 = .ok (.getfield 17, 3) := by decide +kernel
theorem dX1_howManyCallers_17 : decode prog_3_method_3_code 17 = .ok (.iload_n 2, 1) := by decide +kernel
theorem dX1_howManyCallers_18 : decode prog_3_method_3_code 18 = .ok (.iaload, 1) := by decide +kernel
theorem dX1_howManyCallers_19 : decode prog_3_method_3_code 19 = .ok (.iadd, 1) := by decide +kernel
theorem dX1_howManyCallers_20 : decode prog_3_method_3_code 20 = .ok (.istore_n 1, 1) := by decide +kernel
theorem dX1_howManyCallers_21 : decode prog_3_method_3_code 21 = .ok (.iinc 2 1, 3) := by decide +kernel
theorem dX1_howManyCallers_24 : decode prog_3_method_3_code 24 = .ok (.goto (-20), 3) := by decide +kernel
theorem dX1_howManyCallers_27 : decode prog_3_method_3_code 27 = .ok (.iload_n 1, 1) := by decide +kernel
theorem dX1_howManyCallers_28 : decode prog_3_method_3_code 28 = .ok (.ireturn, 1) := by decide +kernel
abbrev rmX1_howManyCallers : Room := { frames := 0, cells := 0, slots := 0, locals := 0 }
def bX1_howManyCallers_4  (rc : Nat → Int32 → Int32 → Hp → Option (Int32 × Hp)) (t0 : Nat) (v1 : Int32) (v2 : Int32) (h : Hp) : Option (Int32 × Hp) :=
  gk (h.1 t0) 2 <|
  if (h.2.2.1 t0 2) ≤ v2 then
  (some (v1, h))
  else
  (bd (h.2.2.2.1 t0 1) fun a3 =>
  gk (h.1 a3) 13 <|
  gd (ix v2 (h.2.1 a3)) <|
  nm (v1 + (h.2.2.1 a3 v2.toNatClampNeg)) fun x7 =>
  nm (v2 + 1) fun x8 =>
  rc t0 x7 x8 h)
def fX1_howManyCallers_4  : Nat → Int32 → Int32 → Hp → Option (Int32 × Hp) := fx (bX1_howManyCallers_4 ) (fun _ _ _ _ => none) NF
def fX1_howManyCallers  (t0 : Nat) (h : Hp) : Option (Int32 × Hp) :=
  fX1_howManyCallers_4  t0 0 0 h
section
variable {p : Program} {l : Launch} {e : Env} {s : State} {m : MethodId} {args : Array Value} {below : List Frame} {meth : Method} {c : Code} {D : va_G} {cA : Nat → ClassId} {h0 h9 : Hp}
set_option maxHeartbeats 4000000 in
set_option maxRecDepth 100000 in
theorem tX1_howManyCallers_4  {r : Int32} (cx : CallFix p m c prog_3_method_3_code 3 s args tbG RX1) (hr : meth.sig.returnType = (Option.some FieldType.int)) (hlk : meth.locks = false)  (n : Nat) : ∀ (t0 : Nat) (v1 : Int32) (v2 : Int32) (h : Hp) (H : Heap) (locs : List Loc) (ls : Array Slot), hp_B D cA (hp_A h0) s h H locs → lv_has ls 3 [(0, .ref t0), (1, .int v1), (2, .int v2)] → fx (bX1_howManyCallers_4 ) (fun _ _ _ _ => none) n t0 v1 v2 h = some (r, h9) → W p l e rmX1_howManyCallers s m args below meth c H locs 0 0 (MQ below (hp_Qi D cA h0 h9 r) args s 0 0 (hp_A h0)) (F0 m 4 ls []) := by
  obtain ⟨hx, hb, -⟩ := id cx
  induction n with
  | zero => intro t0 v1 v2 h H locs ls hB hl hf; cases hf
  | succ n ih =>
    intro t0 v1 v2 h H locs ls hB hl hf
    replace hf : bX1_howManyCallers_4  (fx (bX1_howManyCallers_4 ) (fun _ _ _ _ => none) n) t0 v1 v2 h = some (r, h9) := hf
    unfold bX1_howManyCallers_4 at hf
    refine lv_iload_n hx hb dX1_howManyCallers_4 rfl (lv_at hl 2 rfl) ?_
    refine lv_aload_n hx hb dX1_howManyCallers_5 rfl (lv_at hl 0 rfl) ?_
    obtain ⟨k1, hf⟩ := gk_ok hf
    refine gf_X1_21 cx hB k1 dX1_howManyCallers_6 ?_
    refine lv_icmp_ge (tgt := 27) hx hb dX1_howManyCallers_9 (by decide) (fun c2 => ?_) (fun c2 => ?_)
    · replace hf := it_t c2 hf
      refine lv_iload_n hx hb dX1_howManyCallers_27 rfl (lv_at hl 1 rfl) ?_
      obtain ⟨rfl, rfl⟩ := rt_ok hf
      exact hp_iret cx hB hr hlk (Nat.le_of_ble_eq_true rfl) (Nat.le_of_ble_eq_true rfl) dX1_howManyCallers_28
    · replace hf := it_f c2 hf
      refine lv_iload_n hx hb dX1_howManyCallers_12 rfl (lv_at hl 1 rfl) ?_
      refine lv_aload_n hx hb dX1_howManyCallers_13 rfl (lv_at hl 0 rfl) ?_
      obtain ⟨a3, q4, hf⟩ := bd_ok hf
      refine gf_X1_17 cx hB k1 q4 dX1_howManyCallers_14 ?_
      refine lv_iload_n hx hb dX1_howManyCallers_17 rfl (lv_at hl 2 rfl) ?_
      obtain ⟨k5, hf⟩ := gk_ok hf
      obtain ⟨j6, hf⟩ := gd_ok hf
      refine hp_iald cx hB k5 j6 dX1_howManyCallers_18 ?_
      refine lv_iadd hx hb dX1_howManyCallers_19 ?_
      obtain ⟨x7, ex7, hf⟩ := nm_ok hf
      refine lv_ren ex7 ?_
      refine lv_istore_n (lv' := [(1, .int x7), (0, .ref t0), (2, .int v2)]) hx hb dX1_howManyCallers_20 rfl hl (by decide) rfl (fun ls hl => ?_)
      obtain ⟨x8, ex8, hf⟩ := nm_ok hf
      refine lv_iinc (v := x8) (lv' := [(2, .int x8), (1, .int x7), (0, .ref t0)]) hx hb dX1_howManyCallers_21 hl (k := 2) rfl (by rw [ex8]; rfl) (by decide) rfl (fun ls hl => ?_)
      refine lv_goto (tgt := 4) hx hb dX1_howManyCallers_24 (by decide) ?_
      exact ih t0 x7 x8 h _ _ _ hB (lv_sub hl [2, 1, 0] rfl) hf
set_option maxHeartbeats 4000000 in
set_option maxRecDepth 100000 in
theorem tX1_howManyCallers_0  {r : Int32} (cx : CallFix p m c prog_3_method_3_code 3 s args tbG RX1) (hr : meth.sig.returnType = (Option.some FieldType.int)) (hlk : meth.locks = false)  (t0 : Nat) (h : Hp) (H : Heap) (locs : List Loc) (ls : Array Slot) (hB : hp_B D cA (hp_A h0) s h H locs) (hl : lv_has ls 3 [(0, .ref t0)]) (hf : fX1_howManyCallers  t0 h = some (r, h9)) : W p l e rmX1_howManyCallers s m args below meth c H locs 0 0 (MQ below (hp_Qi D cA h0 h9 r) args s 0 0 (hp_A h0)) (F0 m 0 ls []) := by
  obtain ⟨hx, hb, -⟩ := id cx
  unfold fX1_howManyCallers at hf
  refine lv_iconst (v := 0) hx hb dX1_howManyCallers_0 (by decide) ?_
  refine lv_istore_n (lv' := [(1, .int 0), (0, .ref t0)]) hx hb dX1_howManyCallers_1 rfl hl (by decide) rfl (fun ls hl => ?_)
  refine lv_iconst (v := 0) hx hb dX1_howManyCallers_2 (by decide) ?_
  refine lv_istore_n (lv' := [(2, .int 0), (1, .int 0), (0, .ref t0)]) hx hb dX1_howManyCallers_3 rfl hl (by decide) rfl (fun ls hl => ?_)
  exact tX1_howManyCallers_4 cx hr hlk  NF t0 0 0 h _ _ _ hB (lv_sub hl [2, 1, 0] rfl) hf
end
set_option maxHeartbeats 4000000 in
set_option maxRecDepth 100000 in
theorem cX1_howManyCallers (l : Launch) (D : va_G) (cA : Nat → ClassId) (t0 : Nat) (h : Hp) (r : Int32) (h9 : Hp) (hf : fX1_howManyCallers t0 h = some (r, h9)) : hp_M l yX1_howManyCallers prog_3_method_3_code 3 (Option.some FieldType.int) rmX1_howManyCallers D cA h [.ref t0] (hp_Qi D cA h h9 r) := by
  refine Met.ofW (cc := prog_3_method_3_code) (maxL := 3) (ret := (Option.some FieldType.int)) (by decide) rfl ?_
  intro p e s m args below meth c s₁ B hml hv
  obtain ⟨rfl, hU⟩ := hv
  have hts := atoms_spec (ws := Cond.code yX1_howManyCallers prog_3_method_3_code 3 (Option.some FieldType.int) :: tbG) B.pre
  have hl := lv_entry ([.ref t0]) (n := 3) (Nat.le_of_ble_eq_true rfl)
  rw [lg_entry_eq]
  generalize (lg_sl ([.ref t0]) ++ List.replicate (3 - (lg_sl ([.ref t0])).length) Slot.unset).toArray = ls at hl ⊢
  exact tX1_howManyCallers_0 ⟨B.exec, B.bytes, hml, findClass_of_methodNamed B.named, fun w hw => hts w (List.mem_cons_of_mem _ hw)⟩ B.returns B.notSynchronized t0 h _ _ _ (hp_B.entry hU) hl hf
section
variable {p : Program} {l : Launch} {e : Env} {R : Room} {s : State} {m : MethodId} {args : Array Value} {below : List Frame} {meth : Method} {c : Code} {H : Heap} {locs : List Loc} {cells slots : Nat} {Q : State → Prop}
variable {cc : ByteArray} {pc nL : Nat} {ls : Array Slot} {rest : List Value} {D : va_G} {cA : Nat → ClassId} {A : Nat → Prop} {a : Nat} {h : Hp}
theorem pf_X2_11 (cx : CallFix p m c cc nL s args tbG RX2) (hB : hp_B D cA A s h H locs) (hnm : meth.name = "<init>") (hka : h.1 a = 3) {b : Nat} (hdg : decode cc pc = .ok (.putfield 11, 3)) (kk : ∀ (H1 : Heap) (locs1 : List Loc), hp_B D cA A s (hp_sr h a 0 (some b)) H1 locs1 → W p l e R s m args below meth c H1 locs1 cells slots Q (F0 m (pc + 3) ls rest)) : W p l e R s m args below meth c H locs cells slots Q (F0 m pc ls (.ref b :: .ref a :: rest)) :=
  hp_putX cx hB (ci := 2) 0 tyX2 tyX2_ok nmX2 rfl inX2 (by decide) rfl (by decide) (Or.inr ⟨rfl, hnm, rfl⟩) qw_32 hka (v := va_rf (some b)) (hp_like_sr h a 0 (some b)) (hp_fs_sr (by decide) rfl) rfl rfl hdg kk
theorem pf_X2_17 (cx : CallFix p m c cc nL s args tbG RX2) (hB : hp_B D cA A s h H locs) (hka : h.1 a = 3) {x : Int32} (hdg : decode cc pc = .ok (.putfield 17, 3)) (kk : ∀ (H1 : Heap) (locs1 : List Loc), hp_B D cA A s (hp_si h a 1 x) H1 locs1 → W p l e R s m args below meth c H1 locs1 cells slots Q (F0 m (pc + 3) ls rest)) : W p l e R s m args below meth c H locs cells slots Q (F0 m pc ls (.int x :: .ref a :: rest)) :=
  hp_putX cx hB (ci := 2) 1 tyX2 tyX2_ok nmX2 rfl inX2 (by decide) rfl (by decide) (Or.inl rfl) qw_35 hka (v := .int x) (hp_like_si h a 1 x) (hp_fs_si (by decide) rfl) rfl rfl hdg kk
end
abbrev yX2_init : MethodName := ⟨"SpokenMenus$House", "<init>", "()V"⟩
theorem dX2_init_0 : decode prog_4_method_1_code 0 = .ok (.aload_n 0, 1) := by decide +kernel
theorem dX2_init_1 : decode prog_4_method_1_code 1 = .ok (.invokespecial 3, 3) := by decide +kernel
theorem dX2_init_4 : decode prog_4_method_1_code 4 = .ok (.aload_n 0, 1) := by decide +kernel
theorem dX2_init_5 : decode prog_4_method_1_code 5 = .ok (.bipush 40, 2) := by decide +kernel
theorem dX2_init_7 : decode prog_4_method_1_code 7 = .ok (.anewarray 9, 3) := by decide +kernel
theorem dX2_init_10 : decode prog_4_method_1_code 10 = .ok (.putfield 11, 3) := by decide +kernel
theorem dX2_init_13 : decode prog_4_method_1_code 13 = .ok (.aload_n 0, 1) := by decide +kernel
theorem dX2_init_14 : decode prog_4_method_1_code 14 = .ok (.iconst 0, 1) := by decide +kernel
theorem dX2_init_15 : decode prog_4_method_1_code 15 = .ok (.putfield 17, 3) := by decide +kernel
theorem dX2_init_18 : decode prog_4_method_1_code 18 = .ok (.return_, 1) := by decide +kernel
abbrev rmX2_init : Room := { frames := 1, cells := 1, slots := 40, locals := 20 }
def fX2_init  (t0 : Nat) (h : Hp) : Option (Unit × Hp) :=
  nm h.2.2.2.2 fun a1 =>
  nm (hp_nw h 17 40) fun g2 =>
  gk (g2.1 t0) 3 <|
  nm (hp_sr g2 t0 0 (some a1)) fun g5 =>
  nm (hp_si g5 t0 1 0) fun g7 =>
  some ((), g7)
section
variable {p : Program} {l : Launch} {e : Env} {s : State} {m : MethodId} {args : Array Value} {below : List Frame} {meth : Method} {c : Code} {D : va_G} {cA : Nat → ClassId} {h0 h9 : Hp}
set_option maxHeartbeats 4000000 in
set_option maxRecDepth 100000 in
theorem tX2_init_0  (cx : CallFix p m c prog_4_method_1_code 1 s args tbG RX2) (hr : meth.sig.returnType = none) (hlk : meth.locks = false) (hnm : meth.name = "<init>")  (t0 : Nat) (h : Hp) (H : Heap) (locs : List Loc) (ls : Array Slot) (hB : hp_B D cA (hp_A h0) s h H locs) (hl : lv_has ls 1 [(0, .ref t0)]) (hf : fX2_init  t0 h = some ((), h9)) : W p l e rmX2_init s m args below meth c H locs 0 0 (MQ below (hp_Qv D cA h0 h9) args s 1 40 (hp_A h0)) (F0 m 0 ls []) := by
  obtain ⟨hx, hb, -⟩ := id cx
  unfold fX2_init at hf
  refine lv_aload_n hx hb dX2_init_0 rfl (lv_at hl 0 rfl) ?_
  refine W.objInit hx hb cx.2.2.2.1 (cx.2.2.2.2 _ (tb_in qw_29 rfl)) (cx.2.2.2.2 _ (tb_in qw_22 rfl)) (cx.2.2.2.2 _ (tb_in qw_23 rfl)) rfl (by rw [cx.2.2.1]; exact hl.1) rfl dX2_init_1 (Nat.le_of_ble_eq_true rfl) (Nat.le_of_ble_eq_true rfl) ?_
  refine W.eq (g2 := F0 m 4 ls []) rfl ?_
  refine lv_aload_n hx hb dX2_init_4 rfl (lv_at hl 0 rfl) ?_
  refine lv_bipush (v := 40) hx hb dX2_init_5 (by decide) ?_
  obtain ⟨a1, ea1, hf⟩ := nm_ok hf
  obtain ⟨g2, eg2, hf⟩ := nm_ok hf
  refine hp_newq cx hB 17 (N' := 40) (by decide) rfl qw_30 (fun h9 => h9.2.2.2) ea1 (by decide) (by decide) (by decide) (Nat.le_of_ble_eq_true rfl) (Nat.le_of_ble_eq_true rfl) dX2_init_7 (fun H hB => ?_)
  rw [← eg2] at hB
  have k3 : g2.1 a1 = 17 := by rw [eg2, ea1]; exact va_up_self _ _ _
  obtain ⟨k4, hf⟩ := gk_ok hf
  obtain ⟨g5, eg5, hf⟩ := nm_ok hf
  refine pf_X2_11 cx hB hnm k4 dX2_init_10 (fun H locs hB => ?_)
  rw [← eg5] at hB
  refine lv_aload_n hx hb dX2_init_13 rfl (lv_at hl 0 rfl) ?_
  refine lv_iconst (v := 0) hx hb dX2_init_14 (by decide) ?_
  have k6 : g5.1 t0 = 3 := by rw [eg5]; exact k4
  obtain ⟨g7, eg7, hf⟩ := nm_ok hf
  refine pf_X2_17 cx hB k6 dX2_init_15 (fun H locs hB => ?_)
  rw [← eg7] at hB
  obtain ⟨-, rfl⟩ := rt_ok hf
  exact hp_vret cx hB hr hlk (Nat.le_of_ble_eq_true rfl) (Nat.le_of_ble_eq_true rfl) dX2_init_18
end
set_option maxHeartbeats 4000000 in
set_option maxRecDepth 100000 in
theorem cX2_init (l : Launch) (D : va_G) (cA : Nat → ClassId) (t0 : Nat) (h : Hp) (_u : Unit) (h9 : Hp) (hf : fX2_init t0 h = some (_u, h9)) : hp_M l yX2_init prog_4_method_1_code 1 none rmX2_init D cA h [.ref t0] (hp_Qv D cA h h9) := by
  refine Met.ofW (cc := prog_4_method_1_code) (maxL := 1) (ret := none) (by decide) rfl ?_
  intro p e s m args below meth c s₁ B hml hv
  obtain ⟨rfl, hU⟩ := hv
  have hts := atoms_spec (ws := Cond.code yX2_init prog_4_method_1_code 1 none :: tbG) B.pre
  have hl := lv_entry ([.ref t0]) (n := 1) (Nat.le_of_ble_eq_true rfl)
  rw [lg_entry_eq]
  generalize (lg_sl ([.ref t0]) ++ List.replicate (1 - (lg_sl ([.ref t0])).length) Slot.unset).toArray = ls at hl ⊢
  exact tX2_init_0 ⟨B.exec, B.bytes, hml, findClass_of_methodNamed B.named, fun w hw => hts w (List.mem_cons_of_mem _ hw)⟩ B.returns B.notSynchronized ((name_of_methodNamed B.named B.method).1) t0 h _ _ _ (hp_B.entry hU) hl hf
section
variable {p : Program} {l : Launch} {e : Env} {R : Room} {s : State} {m : MethodId} {args : Array Value} {below : List Frame} {meth : Method} {c : Code} {H : Heap} {locs : List Loc} {cells slots : Nat} {Q : State → Prop}
variable {cc : ByteArray} {pc nL : Nat} {ls : Array Slot} {rest : List Value} {D : va_G} {cA : Nat → ClassId} {A : Nat → Prop} {a : Nat} {h : Hp}
theorem gf_X2_17 (cx : CallFix p m c cc nL s args tbG RX2) (hB : hp_B D cA A s h H locs) (hka : h.1 a = 3) (hdg : decode cc pc = .ok (.getfield 17, 3)) (kk : W p l e R s m args below meth c H locs cells slots Q (F0 m (pc + 3) ls (.int (h.2.2.1 a 1) :: rest))) : W p l e R s m args below meth c H locs cells slots Q (F0 m pc ls (.ref a :: rest)) :=
  hp_getI cx hB (ci := 2) 1 rfl inX2 (by decide) rfl (by decide) rfl qw_35 hka hdg kk
end
abbrev yX2_isFull : MethodName := ⟨"SpokenMenus$House", "isFull", "()Z"⟩
theorem dX2_isFull_0 : decode prog_4_method_2_code 0 = .ok (.aload_n 0, 1) := by decide +kernel
theorem dX2_isFull_1 : decode prog_4_method_2_code 1 = .ok (.getfield 17, 3) := by decide +kernel
theorem dX2_isFull_4 : decode prog_4_method_2_code 4 = .ok (.bipush 40, 2) := by decide +kernel
theorem dX2_isFull_6 : decode prog_4_method_2_code 6 = .ok (.if_icmp .lt 7, 3) := by decide +kernel
theorem dX2_isFull_9 : decode prog_4_method_2_code 9 = .ok (.iconst 1, 1) := by decide +kernel
theorem dX2_isFull_10 : decode prog_4_method_2_code 10 = .ok (.goto 4, 3) := by decide +kernel
theorem dX2_isFull_13 : decode prog_4_method_2_code 13 = .ok (.iconst 0, 1) := by decide +kernel
theorem dX2_isFull_14 : decode prog_4_method_2_code 14 = .ok (.ireturn, 1) := by decide +kernel
abbrev rmX2_isFull : Room := { frames := 0, cells := 0, slots := 0, locals := 0 }
def fX2_isFull  (t0 : Nat) (h : Hp) : Option (Int32 × Hp) :=
  gk (h.1 t0) 3 <|
  if (h.2.2.1 t0 1) < 40 then
  (some (0, h))
  else
  (some (1, h))
section
variable {p : Program} {l : Launch} {e : Env} {s : State} {m : MethodId} {args : Array Value} {below : List Frame} {meth : Method} {c : Code} {D : va_G} {cA : Nat → ClassId} {h0 h9 : Hp}
set_option maxHeartbeats 4000000 in
set_option maxRecDepth 100000 in
theorem tX2_isFull_0  {r : Int32} (cx : CallFix p m c prog_4_method_2_code 1 s args tbG RX2) (hr : meth.sig.returnType = (Option.some FieldType.boolean)) (hlk : meth.locks = false)  (t0 : Nat) (h : Hp) (H : Heap) (locs : List Loc) (ls : Array Slot) (hB : hp_B D cA (hp_A h0) s h H locs) (hl : lv_has ls 1 [(0, .ref t0)]) (hf : fX2_isFull  t0 h = some (r, h9)) : W p l e rmX2_isFull s m args below meth c H locs 0 0 (MQ below (hp_Qi D cA h0 h9 r) args s 0 0 (hp_A h0)) (F0 m 0 ls []) := by
  obtain ⟨hx, hb, -⟩ := id cx
  unfold fX2_isFull at hf
  refine lv_aload_n hx hb dX2_isFull_0 rfl (lv_at hl 0 rfl) ?_
  obtain ⟨k1, hf⟩ := gk_ok hf
  refine gf_X2_17 cx hB k1 dX2_isFull_1 ?_
  refine lv_bipush (v := 40) hx hb dX2_isFull_4 (by decide) ?_
  refine lv_icmp_lt (tgt := 13) hx hb dX2_isFull_6 (by decide) (fun c2 => ?_) (fun c2 => ?_)
  · replace hf := it_t c2 hf
    refine lv_iconst (v := 0) hx hb dX2_isFull_13 (by decide) ?_
    obtain ⟨rfl, rfl⟩ := rt_ok hf
    exact hp_zret cx hB hr hlk (Nat.le_of_ble_eq_true rfl) (Nat.le_of_ble_eq_true rfl) rfl dX2_isFull_14
  · replace hf := it_f c2 hf
    refine lv_iconst (v := 1) hx hb dX2_isFull_9 (by decide) ?_
    refine lv_goto (tgt := 14) hx hb dX2_isFull_10 (by decide) ?_
    obtain ⟨rfl, rfl⟩ := rt_ok hf
    exact hp_zret cx hB hr hlk (Nat.le_of_ble_eq_true rfl) (Nat.le_of_ble_eq_true rfl) rfl dX2_isFull_14
end
set_option maxHeartbeats 4000000 in
set_option maxRecDepth 100000 in
theorem cX2_isFull (l : Launch) (D : va_G) (cA : Nat → ClassId) (t0 : Nat) (h : Hp) (r : Int32) (h9 : Hp) (hf : fX2_isFull t0 h = some (r, h9)) : hp_M l yX2_isFull prog_4_method_2_code 1 (Option.some FieldType.boolean) rmX2_isFull D cA h [.ref t0] (hp_Qi D cA h h9 r) := by
  refine Met.ofW (cc := prog_4_method_2_code) (maxL := 1) (ret := (Option.some FieldType.boolean)) (by decide) rfl ?_
  intro p e s m args below meth c s₁ B hml hv
  obtain ⟨rfl, hU⟩ := hv
  have hts := atoms_spec (ws := Cond.code yX2_isFull prog_4_method_2_code 1 (Option.some FieldType.boolean) :: tbG) B.pre
  have hl := lv_entry ([.ref t0]) (n := 1) (Nat.le_of_ble_eq_true rfl)
  rw [lg_entry_eq]
  generalize (lg_sl ([.ref t0]) ++ List.replicate (1 - (lg_sl ([.ref t0])).length) Slot.unset).toArray = ls at hl ⊢
  exact tX2_isFull_0 ⟨B.exec, B.bytes, hml, findClass_of_methodNamed B.named, fun w hw => hts w (List.mem_cons_of_mem _ hw)⟩ B.returns B.notSynchronized t0 h _ _ _ (hp_B.entry hU) hl hf
section
variable {p : Program} {l : Launch} {e : Env} {R : Room} {s : State} {m : MethodId} {args : Array Value} {below : List Frame} {meth : Method} {c : Code} {H : Heap} {locs : List Loc} {cells slots : Nat} {Q : State → Prop}
variable {cc : ByteArray} {pc nL : Nat} {ls : Array Slot} {rest : List Value} {D : va_G} {cA : Nat → ClassId} {A : Nat → Prop} {a : Nat} {h : Hp}
theorem cl_X2_21 {As st0 : List Value} {b : Nat} {Qc : Array Value → State → Outcome → State → Prop} (cx : CallFix p m c cc nL s args tbG RX2) (hB : hp_B D cA A s h H locs) (hM : hp_M l yX2_isFull prog_4_method_2_code 1 (Option.some FieldType.boolean) rmX2_isFull D cA h (.ref b :: As) Qc) (hkb : h.1 b = 3) (hR : rmX2_isFull.frames + 1 ≤ R.frames ∧ 8 + (1 + 11) + rmX2_isFull.locals ≤ R.locals) (hn : As.length = 0) (hls : ls.size = nL) (hst : st0 = As.reverse ++ .ref b :: rest) (hW : (rest.map fun v => v.category).sum ≤ 8) (hf : cells + rmX2_isFull.cells ≤ R.cells ∧ slots + rmX2_isFull.slots ≤ R.slots) (hdg : decode cc pc = .ok (.invokevirtual 21, 3)) :
    va_Run p l e R s m args below meth c H locs cells slots rmX2_isFull.cells rmX2_isFull.slots (F0 m pc ls st0) rest (Qc (Value.ref b :: As).toArray) (hp_A h) :=
  hp_runV cx hB hM (ci := 2) rfl (by decide) hkb qw_238 qw_311 qw_236 qw_237 qw_2 (by decide +kernel) hR hn hls hst hW hf hdg
theorem gf_X2_11 (cx : CallFix p m c cc nL s args tbG RX2) (hB : hp_B D cA A s h H locs) (hka : h.1 a = 3) {b : Nat} (ho : h.2.2.2.1 a 0 = some b) (hdg : decode cc pc = .ok (.getfield 11, 3)) (kk : W p l e R s m args below meth c H locs cells slots Q (F0 m (pc + 3) ls (.ref b :: rest))) : W p l e R s m args below meth c H locs cells slots Q (F0 m pc ls (.ref a :: rest)) :=
  hp_getR cx hB (ci := 2) 0 rfl inX2 (by decide) rfl (by decide) rfl qw_32 hka (o := some b) ho.symm hdg kk
end
abbrev yX2_add : MethodName := ⟨"SpokenMenus$House", "add", "(LSpokenMenus$Place;)I"⟩
theorem dX2_add_0 : decode prog_4_method_3_code 0 = .ok (.aload_n 0, 1) := by decide +kernel
theorem dX2_add_1 : decode prog_4_method_3_code 1 = .ok (.invokevirtual 21, 3) := by decide +kernel
theorem dX2_add_4 : decode prog_4_method_3_code 4 = .ok (.ifCond .eq 6, 3) := by decide +kernel
theorem dX2_add_7 : decode prog_4_method_3_code 7 = .ok (.bipush (-3), 2) := by decide +kernel
theorem dX2_add_9 : decode prog_4_method_3_code 9 = .ok (.ireturn, 1) := by decide +kernel
theorem dX2_add_10 : decode prog_4_method_3_code 10 = .ok (.aload_n 0, 1) := by decide +kernel
theorem dX2_add_11 : decode prog_4_method_3_code 11 = .ok (.getfield 11, 3) := by decide +kernel
theorem dX2_add_14 : decode prog_4_method_3_code 14 = .ok (.aload_n 0, 1) := by decide +kernel
theorem dX2_add_15 : decode prog_4_method_3_code 15 = .ok (.getfield 17, 3) := by decide +kernel
theorem dX2_add_18 : decode prog_4_method_3_code 18 = .ok (.aload_n 1, 1) := by decide +kernel
theorem dX2_add_19 : decode prog_4_method_3_code 19 = .ok (.aastore, 1) := by decide +kernel
theorem dX2_add_20 : decode prog_4_method_3_code 20 = .ok (.aload_n 0, 1) := by decide +kernel
theorem dX2_add_21 : decode prog_4_method_3_code 21 = .ok (.dup, 1) := by decide +kernel
theorem dX2_add_22 : decode prog_4_method_3_code 22 = .ok (.getfield 17, 3) := by decide +kernel
theorem dX2_add_25 : decode prog_4_method_3_code 25 = .ok (.iconst 1, 1) := by decide +kernel
theorem dX2_add_26 : decode prog_4_method_3_code 26 = .ok (.iadd, 1) := by decide +kernel
theorem dX2_add_27 : decode prog_4_method_3_code 27 = .ok (.putfield 17, 3) := by decide +kernel
theorem dX2_add_30 : decode prog_4_method_3_code 30 = .ok (.aload_n 0, 1) := by decide +kernel
theorem dX2_add_31 : decode prog_4_method_3_code 31 = .ok (.getfield 17, 3) := by decide +kernel
theorem dX2_add_34 : decode prog_4_method_3_code 34 = .ok (.iconst 1, 1) := by decide +kernel
theorem dX2_add_35 : decode prog_4_method_3_code 35 = .ok (.isub, 1) := by decide +kernel
theorem dX2_add_36 : decode prog_4_method_3_code 36 = .ok (.ireturn, 1) := by decide +kernel
abbrev rmX2_add : Room := { frames := 1, cells := 0, slots := 0, locals := 20 }
def fX2_add  (t0 : Nat) (w1 : Option Nat) (h : Hp) : Option (Int32 × Hp) :=
  gk (h.1 t0) 3 <|
  b2 (fX2_isFull t0 h) fun r4 g2 =>
  if r4 = 0 then
  (gk (g2.1 t0) 3 <|
  bd (g2.2.2.2.1 t0 0) fun a8 =>
  bd w1 fun a10 =>
  gk (g2.1 a8) 17 <|
  gk (g2.1 a10) 6 <|
  gd (ix (g2.2.2.1 t0 1) (g2.2.1 a8)) <|
  nm (hp_sr g2 a8 (g2.2.2.1 t0 1).toNatClampNeg (some a10)) fun g14 =>
  nm (hp_si g14 t0 1 ((g14.2.2.1 t0 1) + 1)) fun g16 =>
  some ((g16.2.2.1 t0 1) - 1, g16))
  else
  (some ((-3), g2))
section
variable {p : Program} {l : Launch} {e : Env} {s : State} {m : MethodId} {args : Array Value} {below : List Frame} {meth : Method} {c : Code} {D : va_G} {cA : Nat → ClassId} {h0 h9 : Hp}
set_option maxHeartbeats 4000000 in
set_option maxRecDepth 100000 in
theorem tX2_add_0  {r : Int32} (cx : CallFix p m c prog_4_method_3_code 2 s args tbG RX2) (hr : meth.sig.returnType = (Option.some FieldType.int)) (hlk : meth.locks = false)  (t0 : Nat) (w1 : Option Nat) (h : Hp) (H : Heap) (locs : List Loc) (ls : Array Slot) (hB : hp_B D cA (hp_A h0) s h H locs) (hl : lv_has ls 2 [(0, .ref t0), (1, va_rf w1)]) (hf : fX2_add  t0 w1 h = some (r, h9)) : W p l e rmX2_add s m args below meth c H locs 0 0 (MQ below (hp_Qi D cA h0 h9 r) args s 0 0 (hp_A h0)) (F0 m 0 ls []) := by
  obtain ⟨hx, hb, -⟩ := id cx
  unfold fX2_add at hf
  refine lv_aload_n hx hb dX2_add_0 rfl (lv_at hl 0 rfl) ?_
  obtain ⟨k1, hf⟩ := gk_ok hf
  obtain ⟨r4, g2, m3, hf⟩ := b2_ok hf
  refine hp_cI0 (cl_X2_21 cx hB (cX2_isFull l D cA t0 h _ g2 m3) k1 ⟨Nat.le_of_ble_eq_true rfl, Nat.le_of_ble_eq_true rfl⟩ rfl hl.1 rfl (Nat.le_of_ble_eq_true rfl) ⟨Nat.le_of_ble_eq_true rfl, Nat.le_of_ble_eq_true rfl⟩ dX2_add_1) rfl rfl hB (fun H locs hB => ?_)
  refine lv_if_eq (tgt := 10) hx hb dX2_add_4 (by decide) (fun c6 => ?_) (fun c6 => ?_)
  · replace hf := it_t c6 hf
    refine lv_aload_n hx hb dX2_add_10 rfl (lv_at hl 0 rfl) ?_
    obtain ⟨k7, hf⟩ := gk_ok hf
    obtain ⟨a8, q9, hf⟩ := bd_ok hf
    refine gf_X2_11 cx hB k7 q9 dX2_add_11 ?_
    refine lv_aload_n hx hb dX2_add_14 rfl (lv_at hl 0 rfl) ?_
    refine gf_X2_17 cx hB k7 dX2_add_15 ?_
    refine lq_aload_n hx hb dX2_add_18 rfl (lv_at hl 1 rfl) ?_
    obtain ⟨a10, eo, hf⟩ := bd_ok hf
    subst eo
    obtain ⟨k11, hf⟩ := gk_ok hf
    obtain ⟨k12, hf⟩ := gk_ok hf
    obtain ⟨j13, hf⟩ := gd_ok hf
    obtain ⟨g14, eg14, hf⟩ := nm_ok hf
    refine hp_aast cx hB 17 5 (by decide) rfl rfl (by decide) k11 k12 j13 dX2_add_19 (fun H locs hB => ?_)
    rw [← eg14] at hB
    refine lv_aload_n hx hb dX2_add_20 rfl (lv_at hl 0 rfl) ?_
    refine lv_dup hx hb dX2_add_21 rfl ?_
    have k15 : g14.1 t0 = 3 := by rw [eg14]; exact k7
    refine gf_X2_17 cx hB k15 dX2_add_22 ?_
    refine lv_iconst (v := 1) hx hb dX2_add_25 (by decide) ?_
    refine lv_iadd hx hb dX2_add_26 ?_
    obtain ⟨g16, eg16, hf⟩ := nm_ok hf
    refine pf_X2_17 cx hB k15 dX2_add_27 (fun H locs hB => ?_)
    rw [← eg16] at hB
    refine lv_aload_n hx hb dX2_add_30 rfl (lv_at hl 0 rfl) ?_
    have k17 : g16.1 t0 = 3 := by rw [eg16]; exact k15
    refine gf_X2_17 cx hB k17 dX2_add_31 ?_
    refine lv_iconst (v := 1) hx hb dX2_add_34 (by decide) ?_
    refine lv_isub hx hb dX2_add_35 ?_
    obtain ⟨rfl, rfl⟩ := rt_ok hf
    exact hp_iret cx hB hr hlk (Nat.le_of_ble_eq_true rfl) (Nat.le_of_ble_eq_true rfl) dX2_add_36
  · replace hf := it_f c6 hf
    refine lv_bipush (v := (-3)) hx hb dX2_add_7 (by decide) ?_
    obtain ⟨rfl, rfl⟩ := rt_ok hf
    exact hp_iret cx hB hr hlk (Nat.le_of_ble_eq_true rfl) (Nat.le_of_ble_eq_true rfl) dX2_add_9
end
set_option maxHeartbeats 4000000 in
set_option maxRecDepth 100000 in
theorem cX2_add (l : Launch) (D : va_G) (cA : Nat → ClassId) (t0 : Nat) (w1 : Option Nat) (h : Hp) (r : Int32) (h9 : Hp) (hf : fX2_add t0 w1 h = some (r, h9)) : hp_M l yX2_add prog_4_method_3_code 2 (Option.some FieldType.int) rmX2_add D cA h [.ref t0, va_rf w1] (hp_Qi D cA h h9 r) := by
  refine Met.ofW (cc := prog_4_method_3_code) (maxL := 2) (ret := (Option.some FieldType.int)) (by decide) rfl ?_
  intro p e s m args below meth c s₁ B hml hv
  obtain ⟨rfl, hU⟩ := hv
  have hts := atoms_spec (ws := Cond.code yX2_add prog_4_method_3_code 2 (Option.some FieldType.int) :: tbG) B.pre
  have hl := lv_entry ([.ref t0, va_rf w1]) (n := 2) (by simp [lg_sl, va_rf_cat, cat_i, cat_r, cat_n])
  rw [show lv_args 0 ([.ref t0, va_rf w1]) = [(0, .ref t0), (1, va_rf w1)] by simp [lv_args, va_rf_cat, cat_i, cat_r, cat_n]] at hl
  rw [lg_entry_eq]
  generalize (lg_sl ([.ref t0, va_rf w1]) ++ List.replicate (2 - (lg_sl ([.ref t0, va_rf w1])).length) Slot.unset).toArray = ls at hl ⊢
  exact tX2_add_0 ⟨B.exec, B.bytes, hml, findClass_of_methodNamed B.named, fun w hw => hts w (List.mem_cons_of_mem _ hw)⟩ B.returns B.notSynchronized t0 w1 h _ _ _ (hp_B.entry hU) hl hf
abbrev yX2_at : MethodName := ⟨"SpokenMenus$House", "at", "(I)LSpokenMenus$Place;"⟩
theorem dX2_at_0 : decode prog_4_method_4_code 0 = .ok (.iload_n 1, 1) := by decide +kernel
theorem dX2_at_1 : decode prog_4_method_4_code 1 = .ok (.ifCond .lt 20, 3) := by decide +kernel
theorem dX2_at_4 : decode prog_4_method_4_code 4 = .ok (.iload_n 1, 1) := by decide +kernel
theorem dX2_at_5 : decode prog_4_method_4_code 5 = .ok (.aload_n 0, 1) := by decide +kernel
theorem dX2_at_6 : decode prog_4_method_4_code 6 = .ok (.getfield 17, 3) := by decide +kernel
theorem dX2_at_9 : decode prog_4_method_4_code 9 = .ok (.if_icmp .ge 12, 3) := by decide +kernel
theorem dX2_at_12 : decode prog_4_method_4_code 12 = .ok (.aload_n 0, 1) := by decide +kernel
theorem dX2_at_13 : decode prog_4_method_4_code 13 = .ok (.getfield 11, 3) := by decide +kernel
theorem dX2_at_16 : decode prog_4_method_4_code 16 = .ok (.iload_n 1, 1) := by decide +kernel
theorem dX2_at_17 : decode prog_4_method_4_code 17 = .ok (.aaload, 1) := by decide +kernel
theorem dX2_at_18 : decode prog_4_method_4_code 18 = .ok (.goto 4, 3) := by decide +kernel
theorem dX2_at_21 : decode prog_4_method_4_code 21 = .ok (.aconst_null, 1) := by decide +kernel
theorem dX2_at_22 : decode prog_4_method_4_code 22 = .ok (.areturn, 1) := by decide +kernel
abbrev rmX2_at : Room := { frames := 0, cells := 0, slots := 0, locals := 0 }
def fX2_at  (t0 : Nat) (v1 : Int32) (h : Hp) : Option (Option Nat × Hp) :=
  if v1 < 0 then
  (some (none, h))
  else
  (gk (h.1 t0) 3 <|
  if (h.2.2.1 t0 1) ≤ v1 then
  (some (none, h))
  else
  (bd (h.2.2.2.1 t0 0) fun a4 =>
  gk (h.1 a4) 17 <|
  gd (ix v1 (h.2.1 a4)) <|
  bd (h.2.2.2.1 a4 v1.toNatClampNeg) fun a8 =>
  some ((some a8), h)))
section
variable {p : Program} {l : Launch} {e : Env} {s : State} {m : MethodId} {args : Array Value} {below : List Frame} {meth : Method} {c : Code} {D : va_G} {cA : Nat → ClassId} {h0 h9 : Hp}
set_option maxHeartbeats 4000000 in
set_option maxRecDepth 100000 in
theorem tX2_at_0  {r : Option Nat} (cx : CallFix p m c prog_4_method_4_code 2 s args tbG RX2) (hr : meth.sig.returnType = (Option.some (FieldType.object "SpokenMenus$Place"))) (hlk : meth.locks = false)  (t0 : Nat) (v1 : Int32) (h : Hp) (H : Heap) (locs : List Loc) (ls : Array Slot) (hB : hp_B D cA (hp_A h0) s h H locs) (hl : lv_has ls 2 [(0, .ref t0), (1, .int v1)]) (hf : fX2_at  t0 v1 h = some (r, h9)) : W p l e rmX2_at s m args below meth c H locs 0 0 (MQ below (hp_Qr D cA h0 h9 r) args s 0 0 (hp_A h0)) (F0 m 0 ls []) := by
  obtain ⟨hx, hb, -⟩ := id cx
  unfold fX2_at at hf
  refine lv_iload_n hx hb dX2_at_0 rfl (lv_at hl 1 rfl) ?_
  refine lv_if_lt (tgt := 21) hx hb dX2_at_1 (by decide) (fun c1 => ?_) (fun c1 => ?_)
  · replace hf := it_t c1 hf
    refine lv_null hx hb dX2_at_21 ?_
    obtain ⟨rfl, rfl⟩ := rt_ok hf
    exact hp_aret (r := none) cx hB hr (Or.inl ⟨_, rfl⟩) hlk (Nat.le_of_ble_eq_true rfl) (Nat.le_of_ble_eq_true rfl) dX2_at_22
  · replace hf := it_f c1 hf
    refine lv_iload_n hx hb dX2_at_4 rfl (lv_at hl 1 rfl) ?_
    refine lv_aload_n hx hb dX2_at_5 rfl (lv_at hl 0 rfl) ?_
    obtain ⟨k2, hf⟩ := gk_ok hf
    refine gf_X2_17 cx hB k2 dX2_at_6 ?_
    refine lv_icmp_ge (tgt := 21) hx hb dX2_at_9 (by decide) (fun c3 => ?_) (fun c3 => ?_)
    · replace hf := it_t c3 hf
      refine lv_null hx hb dX2_at_21 ?_
      obtain ⟨rfl, rfl⟩ := rt_ok hf
      exact hp_aret (r := none) cx hB hr (Or.inl ⟨_, rfl⟩) hlk (Nat.le_of_ble_eq_true rfl) (Nat.le_of_ble_eq_true rfl) dX2_at_22
    · replace hf := it_f c3 hf
      refine lv_aload_n hx hb dX2_at_12 rfl (lv_at hl 0 rfl) ?_
      obtain ⟨a4, q5, hf⟩ := bd_ok hf
      refine gf_X2_11 cx hB k2 q5 dX2_at_13 ?_
      refine lv_iload_n hx hb dX2_at_16 rfl (lv_at hl 1 rfl) ?_
      obtain ⟨k6, hf⟩ := gk_ok hf
      obtain ⟨j7, hf⟩ := gd_ok hf
      obtain ⟨a8, q9, hf⟩ := bd_ok hf
      refine hp_aald cx hB 17 (.object RX5) (by decide) rfl rfl k6 j7 (o := some a8) q9.symm dX2_at_17 ?_
      refine lv_goto (tgt := 22) hx hb dX2_at_18 (by decide) ?_
      obtain ⟨rfl, rfl⟩ := rt_ok hf
      exact hp_aret (r := (some a8)) cx hB hr (Or.inl ⟨_, rfl⟩) hlk (Nat.le_of_ble_eq_true rfl) (Nat.le_of_ble_eq_true rfl) dX2_at_22
end
set_option maxHeartbeats 4000000 in
set_option maxRecDepth 100000 in
theorem cX2_at (l : Launch) (D : va_G) (cA : Nat → ClassId) (t0 : Nat) (v1 : Int32) (h : Hp) (r : Option Nat) (h9 : Hp) (hf : fX2_at t0 v1 h = some (r, h9)) : hp_M l yX2_at prog_4_method_4_code 2 (Option.some (FieldType.object "SpokenMenus$Place")) rmX2_at D cA h [.ref t0, .int v1] (hp_Qr D cA h h9 r) := by
  refine Met.ofW (cc := prog_4_method_4_code) (maxL := 2) (ret := (Option.some (FieldType.object "SpokenMenus$Place"))) (by decide) rfl ?_
  intro p e s m args below meth c s₁ B hml hv
  obtain ⟨rfl, hU⟩ := hv
  have hts := atoms_spec (ws := Cond.code yX2_at prog_4_method_4_code 2 (Option.some (FieldType.object "SpokenMenus$Place")) :: tbG) B.pre
  have hl := lv_entry ([.ref t0, .int v1]) (n := 2) (Nat.le_of_ble_eq_true rfl)
  rw [lg_entry_eq]
  generalize (lg_sl ([.ref t0, .int v1]) ++ List.replicate (2 - (lg_sl ([.ref t0, .int v1])).length) Slot.unset).toArray = ls at hl ⊢
  exact tX2_at_0 ⟨B.exec, B.bytes, hml, findClass_of_methodNamed B.named, fun w hw => hts w (List.mem_cons_of_mem _ hw)⟩ B.returns B.notSynchronized t0 v1 h _ _ _ (hp_B.entry hU) hl hf
section
variable {p : Program} {l : Launch} {e : Env} {R : Room} {s : State} {m : MethodId} {args : Array Value} {below : List Frame} {meth : Method} {c : Code} {H : Heap} {locs : List Loc} {cells slots : Nat} {Q : State → Prop}
variable {cc : ByteArray} {pc nL : Nat} {ls : Array Slot} {rest : List Value} {D : va_G} {cA : Nat → ClassId} {A : Nat → Prop} {a : Nat} {h : Hp}
theorem cl_X2_25 {As st0 : List Value} {b : Nat} {Qc : Array Value → State → Outcome → State → Prop} (cx : CallFix p m c cc nL s args tbG RX2) (hB : hp_B D cA A s h H locs) (hM : hp_M l yX2_at prog_4_method_4_code 2 (Option.some (FieldType.object "SpokenMenus$Place")) rmX2_at D cA h (.ref b :: As) Qc) (hkb : h.1 b = 3) (hR : rmX2_at.frames + 1 ≤ R.frames ∧ 8 + (2 + 11) + rmX2_at.locals ≤ R.locals) (hn : As.length = 1) (hls : ls.size = nL) (hst : st0 = As.reverse ++ .ref b :: rest) (hW : (rest.map fun v => v.category).sum ≤ 8) (hf : cells + rmX2_at.cells ≤ R.cells ∧ slots + rmX2_at.slots ≤ R.slots) (hdg : decode cc pc = .ok (.invokevirtual 25, 3)) :
    va_Run p l e R s m args below meth c H locs cells slots rmX2_at.cells rmX2_at.slots (F0 m pc ls st0) rest (Qc (Value.ref b :: As).toArray) (hp_A h) :=
  hp_runV cx hB hM (ci := 2) rfl (by decide) hkb qw_323 qw_320 qw_321 qw_322 qw_2 (by decide +kernel) hR hn hls hst hW hf hdg
theorem gf_X2_29 (cx : CallFix p m c cc nL s args tbG RX2) (hB : hp_B D cA A s h H locs) (hka : h.1 a = 6) (hdg : decode cc pc = .ok (.getfield 29, 3)) (kk : W p l e R s m args below meth c H locs cells slots Q (F0 m (pc + 3) ls (.int (h.2.2.1 a 0) :: rest))) : W p l e R s m args below meth c H locs cells slots Q (F0 m pc ls (.ref a :: rest)) :=
  hp_getI cx hB (ci := 5) 0 rfl inX5 (by decide) rfl (by decide) rfl qw_249 hka hdg kk
end
abbrev yX2_menuAt : MethodName := ⟨"SpokenMenus$House", "menuAt", "(I)LSpokenMenus$Place;"⟩
theorem dX2_menuAt_0 : decode prog_4_method_5_code 0 = .ok (.aload_n 0, 1) := by decide +kernel
theorem dX2_menuAt_1 : decode prog_4_method_5_code 1 = .ok (.iload_n 1, 1) := by decide +kernel
theorem dX2_menuAt_2 : decode prog_4_method_5_code 2 = .ok (.invokevirtual 25, 3) := by decide +kernel
theorem dX2_menuAt_5 : decode prog_4_method_5_code 5 = .ok (.astore_n 2, 1) := by decide +kernel
theorem dX2_menuAt_6 : decode prog_4_method_5_code 6 = .ok (.aload_n 2, 1) := by decide +kernel
theorem dX2_menuAt_7 : decode prog_4_method_5_code 7 = .ok (.ifnull 14, 3) := by decide +kernel
theorem dX2_menuAt_10 : decode prog_4_method_5_code 10 = .ok (.aload_n 2, 1) := by decide +kernel
theorem dX2_menuAt_11 : decode prog_4_method_5_code 11 = .ok (.getfield 29, 3) := by decide +kernel
theorem dX2_menuAt_14 : decode prog_4_method_5_code 14 = .ok (.ifCond .ne 7, 3) := by decide +kernel
theorem dX2_menuAt_17 : decode prog_4_method_5_code 17 = .ok (.aload_n 2, 1) := by decide +kernel
theorem dX2_menuAt_18 : decode prog_4_method_5_code 18 = .ok (.goto 4, 3) := by decide +kernel
theorem dX2_menuAt_21 : decode prog_4_method_5_code 21 = .ok (.aconst_null, 1) := by decide +kernel
theorem dX2_menuAt_22 : decode prog_4_method_5_code 22 = .ok (.areturn, 1) := by decide +kernel
abbrev rmX2_menuAt : Room := { frames := 1, cells := 0, slots := 0, locals := 21 }
def fX2_menuAt  (t0 : Nat) (v1 : Int32) (h : Hp) : Option (Option Nat × Hp) :=
  gk (h.1 t0) 3 <|
  b2 (fX2_at t0 v1 h) fun o5 g2 =>
  rn o5
  (some (none, g2))
  (fun a6 =>
  gk (g2.1 a6) 6 <|
  if (g2.2.2.1 a6 0) = 0 then
  (some ((some a6), g2))
  else
  (some (none, g2)))
section
variable {p : Program} {l : Launch} {e : Env} {s : State} {m : MethodId} {args : Array Value} {below : List Frame} {meth : Method} {c : Code} {D : va_G} {cA : Nat → ClassId} {h0 h9 : Hp}
set_option maxHeartbeats 4000000 in
set_option maxRecDepth 100000 in
theorem tX2_menuAt_0  {r : Option Nat} (cx : CallFix p m c prog_4_method_5_code 3 s args tbG RX2) (hr : meth.sig.returnType = (Option.some (FieldType.object "SpokenMenus$Place"))) (hlk : meth.locks = false)  (t0 : Nat) (v1 : Int32) (h : Hp) (H : Heap) (locs : List Loc) (ls : Array Slot) (hB : hp_B D cA (hp_A h0) s h H locs) (hl : lv_has ls 3 [(0, .ref t0), (1, .int v1)]) (hf : fX2_menuAt  t0 v1 h = some (r, h9)) : W p l e rmX2_menuAt s m args below meth c H locs 0 0 (MQ below (hp_Qr D cA h0 h9 r) args s 0 0 (hp_A h0)) (F0 m 0 ls []) := by
  obtain ⟨hx, hb, -⟩ := id cx
  unfold fX2_menuAt at hf
  refine lv_aload_n hx hb dX2_menuAt_0 rfl (lv_at hl 0 rfl) ?_
  refine lv_iload_n hx hb dX2_menuAt_1 rfl (lv_at hl 1 rfl) ?_
  obtain ⟨k1, hf⟩ := gk_ok hf
  obtain ⟨o5, g2, m3, hf⟩ := b2_ok hf
  refine hp_cR0 (cl_X2_25 cx hB (cX2_at l D cA t0 v1 h _ g2 m3) k1 ⟨Nat.le_of_ble_eq_true rfl, Nat.le_of_ble_eq_true rfl⟩ rfl hl.1 rfl (Nat.le_of_ble_eq_true rfl) ⟨Nat.le_of_ble_eq_true rfl, Nat.le_of_ble_eq_true rfl⟩ dX2_menuAt_2) rfl rfl hB (fun H locs hB => ?_)
  refine lq_astore_n (lv' := [(2, va_rf o5), (0, .ref t0), (1, .int v1)]) hx hb dX2_menuAt_5 rfl hl (by decide) rfl (fun ls hl => ?_)
  refine lq_aload_n hx hb dX2_menuAt_6 rfl (lv_at hl 0 rfl) ?_
  refine lq_ifnull (tgt := 21) hx hb dX2_menuAt_7 (by decide) (fun eo => ?_) (fun a6 eo => ?_)
  · subst eo
    replace hf := rn_n hf
    refine lv_null hx hb dX2_menuAt_21 ?_
    obtain ⟨rfl, rfl⟩ := rt_ok hf
    exact hp_aret (r := none) cx hB hr (Or.inl ⟨_, rfl⟩) hlk (Nat.le_of_ble_eq_true rfl) (Nat.le_of_ble_eq_true rfl) dX2_menuAt_22
  · subst eo
    replace hf := rn_s hf
    refine lv_aload_n hx hb dX2_menuAt_10 rfl (lv_at hl 0 rfl) ?_
    obtain ⟨k7, hf⟩ := gk_ok hf
    refine gf_X2_29 cx hB k7 dX2_menuAt_11 ?_
    refine lv_if_ne (tgt := 21) hx hb dX2_menuAt_14 (by decide) (fun c8 => ?_) (fun c8 => ?_)
    · replace hf := it_f c8 hf
      refine lv_null hx hb dX2_menuAt_21 ?_
      obtain ⟨rfl, rfl⟩ := rt_ok hf
      exact hp_aret (r := none) cx hB hr (Or.inl ⟨_, rfl⟩) hlk (Nat.le_of_ble_eq_true rfl) (Nat.le_of_ble_eq_true rfl) dX2_menuAt_22
    · replace hf := it_t c8 hf
      refine lv_aload_n hx hb dX2_menuAt_17 rfl (lv_at hl 0 rfl) ?_
      refine lv_goto (tgt := 22) hx hb dX2_menuAt_18 (by decide) ?_
      obtain ⟨rfl, rfl⟩ := rt_ok hf
      exact hp_aret (r := (some a6)) cx hB hr (Or.inl ⟨_, rfl⟩) hlk (Nat.le_of_ble_eq_true rfl) (Nat.le_of_ble_eq_true rfl) dX2_menuAt_22
end
set_option maxHeartbeats 4000000 in
set_option maxRecDepth 100000 in
theorem cX2_menuAt (l : Launch) (D : va_G) (cA : Nat → ClassId) (t0 : Nat) (v1 : Int32) (h : Hp) (r : Option Nat) (h9 : Hp) (hf : fX2_menuAt t0 v1 h = some (r, h9)) : hp_M l yX2_menuAt prog_4_method_5_code 3 (Option.some (FieldType.object "SpokenMenus$Place")) rmX2_menuAt D cA h [.ref t0, .int v1] (hp_Qr D cA h h9 r) := by
  refine Met.ofW (cc := prog_4_method_5_code) (maxL := 3) (ret := (Option.some (FieldType.object "SpokenMenus$Place"))) (by decide) rfl ?_
  intro p e s m args below meth c s₁ B hml hv
  obtain ⟨rfl, hU⟩ := hv
  have hts := atoms_spec (ws := Cond.code yX2_menuAt prog_4_method_5_code 3 (Option.some (FieldType.object "SpokenMenus$Place")) :: tbG) B.pre
  have hl := lv_entry ([.ref t0, .int v1]) (n := 3) (Nat.le_of_ble_eq_true rfl)
  rw [lg_entry_eq]
  generalize (lg_sl ([.ref t0, .int v1]) ++ List.replicate (3 - (lg_sl ([.ref t0, .int v1])).length) Slot.unset).toArray = ls at hl ⊢
  exact tX2_menuAt_0 ⟨B.exec, B.bytes, hml, findClass_of_methodNamed B.named, fun w hw => hts w (List.mem_cons_of_mem _ hw)⟩ B.returns B.notSynchronized t0 v1 h _ _ _ (hp_B.entry hU) hl hf
section
variable {p : Program} {l : Launch} {e : Env} {R : Room} {s : State} {m : MethodId} {args : Array Value} {below : List Frame} {meth : Method} {c : Code} {H : Heap} {locs : List Loc} {cells slots : Nat} {Q : State → Prop}
variable {cc : ByteArray} {pc nL : Nat} {ls : Array Slot} {rest : List Value} {D : va_G} {cA : Nat → ClassId} {A : Nat → Prop} {a : Nat} {h : Hp}
theorem cl_X2_32 {As st0 : List Value} {b : Nat} {Qc : Array Value → State → Outcome → State → Prop} (cx : CallFix p m c cc nL s args tbG RX2) (hB : hp_B D cA A s h H locs) (hM : hp_M l yX2_menuAt prog_4_method_5_code 3 (Option.some (FieldType.object "SpokenMenus$Place")) rmX2_menuAt D cA h (.ref b :: As) Qc) (hkb : h.1 b = 3) (hR : rmX2_menuAt.frames + 1 ≤ R.frames ∧ 8 + (3 + 11) + rmX2_menuAt.locals ≤ R.locals) (hn : As.length = 1) (hls : ls.size = nL) (hst : st0 = As.reverse ++ .ref b :: rest) (hW : (rest.map fun v => v.category).sum ≤ 8) (hf : cells + rmX2_menuAt.cells ≤ R.cells ∧ slots + rmX2_menuAt.slots ≤ R.slots) (hdg : decode cc pc = .ok (.invokevirtual 32, 3)) :
    va_Run p l e R s m args below meth c H locs cells slots rmX2_menuAt.cells rmX2_menuAt.slots (F0 m pc ls st0) rest (Qc (Value.ref b :: As).toArray) (hp_A h) :=
  hp_runV cx hB hM (ci := 2) rfl (by decide) hkb qw_319 qw_390 qw_317 qw_318 qw_2 (by decide +kernel) hR hn hls hst hW hf hdg
theorem gf_X2_35 (cx : CallFix p m c cc nL s args tbG RX2) (hB : hp_B D cA A s h H locs) (hka : h.1 a = 6) (hdg : decode cc pc = .ok (.getfield 35, 3)) (kk : W p l e R s m args below meth c H locs cells slots Q (F0 m (pc + 3) ls (.int (h.2.2.1 a 6) :: rest))) : W p l e R s m args below meth c H locs cells slots Q (F0 m pc ls (.ref a :: rest)) :=
  hp_getI cx hB (ci := 5) 6 rfl inX5 (by decide) rfl (by decide) rfl qw_274 hka hdg kk
theorem gf_X2_36 (cx : CallFix p m c cc nL s args tbG RX2) (hB : hp_B D cA A s h H locs) (hka : h.1 a = 6) {b : Nat} (ho : h.2.2.2.1 a 5 = some b) (hdg : decode cc pc = .ok (.getfield 36, 3)) (kk : W p l e R s m args below meth c H locs cells slots Q (F0 m (pc + 3) ls (.ref b :: rest))) : W p l e R s m args below meth c H locs cells slots Q (F0 m pc ls (.ref a :: rest)) :=
  hp_getR cx hB (ci := 5) 5 rfl inX5 (by decide) rfl (by decide) rfl qw_267 hka (o := some b) ho.symm hdg kk
end
abbrev yX2_lineAt : MethodName := ⟨"SpokenMenus$House", "lineAt", "(II)LSpokenMenus$Line;"⟩
theorem dX2_lineAt_0 : decode prog_4_method_6_code 0 = .ok (.aload_n 0, 1) := by decide +kernel
theorem dX2_lineAt_1 : decode prog_4_method_6_code 1 = .ok (.iload_n 1, 1) := by decide +kernel
theorem dX2_lineAt_2 : decode prog_4_method_6_code 2 = .ok (.invokevirtual 32, 3) := by decide +kernel
theorem dX2_lineAt_5 : decode prog_4_method_6_code 5 = .ok (.astore_n 3, 1) := by decide +kernel
theorem dX2_lineAt_6 : decode prog_4_method_6_code 6 = .ok (.aload_n 3, 1) := by decide +kernel
theorem dX2_lineAt_7 : decode prog_4_method_6_code 7 = .ok (.ifnull 24, 3) := by decide +kernel
theorem dX2_lineAt_10 : decode prog_4_method_6_code 10 = .ok (.iload_n 2, 1) := by decide +kernel
theorem dX2_lineAt_11 : decode prog_4_method_6_code 11 = .ok (.ifCond .lt 20, 3) := by decide +kernel
theorem dX2_lineAt_14 : decode prog_4_method_6_code 14 = .ok (.iload_n 2, 1) := by decide +kernel
theorem dX2_lineAt_15 : decode prog_4_method_6_code 15 = .ok (.aload_n 3, 1) := by decide +kernel
theorem dX2_lineAt_16 : decode prog_4_method_6_code 16 = .ok (.getfield 35, 3) := by decide +kernel
theorem dX2_lineAt_19 : decode prog_4_method_6_code 19 = .ok (.if_icmp .ge 12, 3) := by decide +kernel
theorem dX2_lineAt_22 : decode prog_4_method_6_code 22 = .ok (.aload_n 3, 1) := by decide +kernel
theorem dX2_lineAt_23 : decode prog_4_method_6_code 23 = .ok (.getfield 36, 3) := by decide +kernel
theorem dX2_lineAt_26 : decode prog_4_method_6_code 26 = .ok (.iload_n 2, 1) := by decide +kernel
theorem dX2_lineAt_27 : decode prog_4_method_6_code 27 = .ok (.aaload, 1) := by decide +kernel
theorem dX2_lineAt_28 : decode prog_4_method_6_code 28 = .ok (.goto 4, 3) := by decide +kernel
theorem dX2_lineAt_31 : decode prog_4_method_6_code 31 = .ok (.aconst_null, 1) := by decide +kernel
theorem dX2_lineAt_32 : decode prog_4_method_6_code 32 = .ok (.areturn, 1) := by decide +kernel
abbrev rmX2_lineAt : Room := { frames := 2, cells := 0, slots := 0, locals := 43 }
def fX2_lineAt  (t0 : Nat) (v1 : Int32) (v2 : Int32) (h : Hp) : Option (Option Nat × Hp) :=
  gk (h.1 t0) 3 <|
  b2 (fX2_menuAt t0 v1 h) fun o5 g2 =>
  rn o5
  (some (none, g2))
  (fun a6 =>
  if v2 < 0 then
  (some (none, g2))
  else
  (gk (g2.1 a6) 6 <|
  if (g2.2.2.1 a6 6) ≤ v2 then
  (some (none, g2))
  else
  (bd (g2.2.2.2.1 a6 5) fun a10 =>
  gk (g2.1 a10) 16 <|
  gd (ix v2 (g2.2.1 a10)) <|
  bd (g2.2.2.2.1 a10 v2.toNatClampNeg) fun a14 =>
  some ((some a14), g2))))
section
variable {p : Program} {l : Launch} {e : Env} {s : State} {m : MethodId} {args : Array Value} {below : List Frame} {meth : Method} {c : Code} {D : va_G} {cA : Nat → ClassId} {h0 h9 : Hp}
set_option maxHeartbeats 4000000 in
set_option maxRecDepth 100000 in
theorem tX2_lineAt_0  {r : Option Nat} (cx : CallFix p m c prog_4_method_6_code 4 s args tbG RX2) (hr : meth.sig.returnType = (Option.some (FieldType.object "SpokenMenus$Line"))) (hlk : meth.locks = false)  (t0 : Nat) (v1 : Int32) (v2 : Int32) (h : Hp) (H : Heap) (locs : List Loc) (ls : Array Slot) (hB : hp_B D cA (hp_A h0) s h H locs) (hl : lv_has ls 4 [(0, .ref t0), (1, .int v1), (2, .int v2)]) (hf : fX2_lineAt  t0 v1 v2 h = some (r, h9)) : W p l e rmX2_lineAt s m args below meth c H locs 0 0 (MQ below (hp_Qr D cA h0 h9 r) args s 0 0 (hp_A h0)) (F0 m 0 ls []) := by
  obtain ⟨hx, hb, -⟩ := id cx
  unfold fX2_lineAt at hf
  refine lv_aload_n hx hb dX2_lineAt_0 rfl (lv_at hl 0 rfl) ?_
  refine lv_iload_n hx hb dX2_lineAt_1 rfl (lv_at hl 1 rfl) ?_
  obtain ⟨k1, hf⟩ := gk_ok hf
  obtain ⟨o5, g2, m3, hf⟩ := b2_ok hf
  refine hp_cR0 (cl_X2_32 cx hB (cX2_menuAt l D cA t0 v1 h _ g2 m3) k1 ⟨Nat.le_of_ble_eq_true rfl, Nat.le_of_ble_eq_true rfl⟩ rfl hl.1 rfl (Nat.le_of_ble_eq_true rfl) ⟨Nat.le_of_ble_eq_true rfl, Nat.le_of_ble_eq_true rfl⟩ dX2_lineAt_2) rfl rfl hB (fun H locs hB => ?_)
  refine lq_astore_n (lv' := [(3, va_rf o5), (0, .ref t0), (1, .int v1), (2, .int v2)]) hx hb dX2_lineAt_5 rfl hl (by decide) rfl (fun ls hl => ?_)
  refine lq_aload_n hx hb dX2_lineAt_6 rfl (lv_at hl 0 rfl) ?_
  refine lq_ifnull (tgt := 31) hx hb dX2_lineAt_7 (by decide) (fun eo => ?_) (fun a6 eo => ?_)
  · subst eo
    replace hf := rn_n hf
    refine lv_null hx hb dX2_lineAt_31 ?_
    obtain ⟨rfl, rfl⟩ := rt_ok hf
    exact hp_aret (r := none) cx hB hr (Or.inl ⟨_, rfl⟩) hlk (Nat.le_of_ble_eq_true rfl) (Nat.le_of_ble_eq_true rfl) dX2_lineAt_32
  · subst eo
    replace hf := rn_s hf
    refine lv_iload_n hx hb dX2_lineAt_10 rfl (lv_at hl 3 rfl) ?_
    refine lv_if_lt (tgt := 31) hx hb dX2_lineAt_11 (by decide) (fun c7 => ?_) (fun c7 => ?_)
    · replace hf := it_t c7 hf
      refine lv_null hx hb dX2_lineAt_31 ?_
      obtain ⟨rfl, rfl⟩ := rt_ok hf
      exact hp_aret (r := none) cx hB hr (Or.inl ⟨_, rfl⟩) hlk (Nat.le_of_ble_eq_true rfl) (Nat.le_of_ble_eq_true rfl) dX2_lineAt_32
    · replace hf := it_f c7 hf
      refine lv_iload_n hx hb dX2_lineAt_14 rfl (lv_at hl 3 rfl) ?_
      refine lv_aload_n hx hb dX2_lineAt_15 rfl (lv_at hl 0 rfl) ?_
      obtain ⟨k8, hf⟩ := gk_ok hf
      refine gf_X2_35 cx hB k8 dX2_lineAt_16 ?_
      refine lv_icmp_ge (tgt := 31) hx hb dX2_lineAt_19 (by decide) (fun c9 => ?_) (fun c9 => ?_)
      · replace hf := it_t c9 hf
        refine lv_null hx hb dX2_lineAt_31 ?_
        obtain ⟨rfl, rfl⟩ := rt_ok hf
        exact hp_aret (r := none) cx hB hr (Or.inl ⟨_, rfl⟩) hlk (Nat.le_of_ble_eq_true rfl) (Nat.le_of_ble_eq_true rfl) dX2_lineAt_32
      · replace hf := it_f c9 hf
        refine lv_aload_n hx hb dX2_lineAt_22 rfl (lv_at hl 0 rfl) ?_
        obtain ⟨a10, q11, hf⟩ := bd_ok hf
        refine gf_X2_36 cx hB k8 q11 dX2_lineAt_23 ?_
        refine lv_iload_n hx hb dX2_lineAt_26 rfl (lv_at hl 3 rfl) ?_
        obtain ⟨k12, hf⟩ := gk_ok hf
        obtain ⟨j13, hf⟩ := gd_ok hf
        obtain ⟨a14, q15, hf⟩ := bd_ok hf
        refine hp_aald cx hB 16 (.object RX3) (by decide) rfl rfl k12 j13 (o := some a14) q15.symm dX2_lineAt_27 ?_
        refine lv_goto (tgt := 32) hx hb dX2_lineAt_28 (by decide) ?_
        obtain ⟨rfl, rfl⟩ := rt_ok hf
        exact hp_aret (r := (some a14)) cx hB hr (Or.inl ⟨_, rfl⟩) hlk (Nat.le_of_ble_eq_true rfl) (Nat.le_of_ble_eq_true rfl) dX2_lineAt_32
end
set_option maxHeartbeats 4000000 in
set_option maxRecDepth 100000 in
theorem cX2_lineAt (l : Launch) (D : va_G) (cA : Nat → ClassId) (t0 : Nat) (v1 : Int32) (v2 : Int32) (h : Hp) (r : Option Nat) (h9 : Hp) (hf : fX2_lineAt t0 v1 v2 h = some (r, h9)) : hp_M l yX2_lineAt prog_4_method_6_code 4 (Option.some (FieldType.object "SpokenMenus$Line")) rmX2_lineAt D cA h [.ref t0, .int v1, .int v2] (hp_Qr D cA h h9 r) := by
  refine Met.ofW (cc := prog_4_method_6_code) (maxL := 4) (ret := (Option.some (FieldType.object "SpokenMenus$Line"))) (by decide) rfl ?_
  intro p e s m args below meth c s₁ B hml hv
  obtain ⟨rfl, hU⟩ := hv
  have hts := atoms_spec (ws := Cond.code yX2_lineAt prog_4_method_6_code 4 (Option.some (FieldType.object "SpokenMenus$Line")) :: tbG) B.pre
  have hl := lv_entry ([.ref t0, .int v1, .int v2]) (n := 4) (Nat.le_of_ble_eq_true rfl)
  rw [lg_entry_eq]
  generalize (lg_sl ([.ref t0, .int v1, .int v2]) ++ List.replicate (4 - (lg_sl ([.ref t0, .int v1, .int v2])).length) Slot.unset).toArray = ls at hl ⊢
  exact tX2_lineAt_0 ⟨B.exec, B.bytes, hml, findClass_of_methodNamed B.named, fun w hw => hts w (List.mem_cons_of_mem _ hw)⟩ B.returns B.notSynchronized t0 v1 v2 h _ _ _ (hp_B.entry hU) hl hf
section
variable {p : Program} {l : Launch} {e : Env} {R : Room} {s : State} {m : MethodId} {args : Array Value} {below : List Frame} {meth : Method} {c : Code} {H : Heap} {locs : List Loc} {cells slots : Nat} {Q : State → Prop}
variable {cc : ByteArray} {pc nL : Nat} {ls : Array Slot} {rest : List Value} {D : va_G} {cA : Nat → ClassId} {A : Nat → Prop} {a : Nat} {h : Hp}
theorem pf_X3_7 (cx : CallFix p m c cc nL s args tbG RX3) (hB : hp_B D cA A s h H locs) (hka : h.1 a = 4) {x : Int32} (hdg : decode cc pc = .ok (.putfield 7, 3)) (kk : ∀ (H1 : Heap) (locs1 : List Loc), hp_B D cA A s (hp_si h a 0 x) H1 locs1 → W p l e R s m args below meth c H1 locs1 cells slots Q (F0 m (pc + 3) ls rest)) : W p l e R s m args below meth c H locs cells slots Q (F0 m pc ls (.int x :: .ref a :: rest)) :=
  hp_putX cx hB (ci := 3) 0 tyX3 tyX3_ok nmX3 rfl inX3 (by decide) rfl (by decide) (Or.inl rfl) qw_335 hka (v := .int x) (hp_like_si h a 0 x) (hp_fs_si (by decide) rfl) rfl rfl hdg kk
theorem pf_X3_13 (cx : CallFix p m c cc nL s args tbG RX3) (hB : hp_B D cA A s h H locs) (hnm : meth.name = "<init>") (hka : h.1 a = 4) {x : Int32} (hdg : decode cc pc = .ok (.putfield 13, 3)) (kk : ∀ (H1 : Heap) (locs1 : List Loc), hp_B D cA A s (hp_si h a 1 x) H1 locs1 → W p l e R s m args below meth c H1 locs1 cells slots Q (F0 m (pc + 3) ls rest)) : W p l e R s m args below meth c H locs cells slots Q (F0 m pc ls (.int x :: .ref a :: rest)) :=
  hp_putX cx hB (ci := 3) 1 tyX3 tyX3_ok nmX3 rfl inX3 (by decide) rfl (by decide) (Or.inr ⟨rfl, hnm, rfl⟩) qw_339 hka (v := .int x) (hp_like_si h a 1 x) (hp_fs_si (by decide) rfl) rfl rfl hdg kk
theorem pf_X3_16 (cx : CallFix p m c cc nL s args tbG RX3) (hB : hp_B D cA A s h H locs) (hka : h.1 a = 4) {x : Int32} (hdg : decode cc pc = .ok (.putfield 16, 3)) (kk : ∀ (H1 : Heap) (locs1 : List Loc), hp_B D cA A s (hp_si h a 2 x) H1 locs1 → W p l e R s m args below meth c H1 locs1 cells slots Q (F0 m (pc + 3) ls rest)) : W p l e R s m args below meth c H locs cells slots Q (F0 m pc ls (.int x :: .ref a :: rest)) :=
  hp_putX cx hB (ci := 3) 2 tyX3 tyX3_ok nmX3 rfl inX3 (by decide) rfl (by decide) (Or.inl rfl) qw_343 hka (v := .int x) (hp_like_si h a 2 x) (hp_fs_si (by decide) rfl) rfl rfl hdg kk
theorem pf_X3_19 (cx : CallFix p m c cc nL s args tbG RX3) (hB : hp_B D cA A s h H locs) (hka : h.1 a = 4) {x : Int32} (hdg : decode cc pc = .ok (.putfield 19, 3)) (kk : ∀ (H1 : Heap) (locs1 : List Loc), hp_B D cA A s (hp_si h a 3 x) H1 locs1 → W p l e R s m args below meth c H1 locs1 cells slots Q (F0 m (pc + 3) ls rest)) : W p l e R s m args below meth c H locs cells slots Q (F0 m pc ls (.int x :: .ref a :: rest)) :=
  hp_putX cx hB (ci := 3) 3 tyX3 tyX3_ok nmX3 rfl inX3 (by decide) rfl (by decide) (Or.inl rfl) qw_345 hka (v := .int x) (hp_like_si h a 3 x) (hp_fs_si (by decide) rfl) rfl rfl hdg kk
end
abbrev yX3_init : MethodName := ⟨"SpokenMenus$Line", "<init>", "(IIII)V"⟩
theorem dX3_init_0 : decode prog_5_method_1_code 0 = .ok (.aload_n 0, 1) := by decide +kernel
theorem dX3_init_1 : decode prog_5_method_1_code 1 = .ok (.invokespecial 1, 3) := by decide +kernel
theorem dX3_init_4 : decode prog_5_method_1_code 4 = .ok (.aload_n 0, 1) := by decide +kernel
theorem dX3_init_5 : decode prog_5_method_1_code 5 = .ok (.iload_n 1, 1) := by decide +kernel
theorem dX3_init_6 : decode prog_5_method_1_code 6 = .ok (.putfield 7, 3) := by decide +kernel
theorem dX3_init_9 : decode prog_5_method_1_code 9 = .ok (.aload_n 0, 1) := by decide +kernel
theorem dX3_init_10 : decode prog_5_method_1_code 10 = .ok (.iload_n 2, 1) := by decide +kernel
theorem dX3_init_11 : decode prog_5_method_1_code 11 = .ok (.putfield 13, 3) := by decide +kernel
theorem dX3_init_14 : decode prog_5_method_1_code 14 = .ok (.aload_n 0, 1) := by decide +kernel
theorem dX3_init_15 : decode prog_5_method_1_code 15 = .ok (.iload_n 3, 1) := by decide +kernel
theorem dX3_init_16 : decode prog_5_method_1_code 16 = .ok (.putfield 16, 3) := by decide +kernel
theorem dX3_init_19 : decode prog_5_method_1_code 19 = .ok (.aload_n 0, 1) := by decide +kernel
theorem dX3_init_20 : decode prog_5_method_1_code 20 = .ok (.iload 4, 2) := by decide +kernel
theorem dX3_init_22 : decode prog_5_method_1_code 22 = .ok (.putfield 19, 3) := by decide +kernel
theorem dX3_init_25 : decode prog_5_method_1_code 25 = .ok (.return_, 1) := by decide +kernel
abbrev rmX3_init : Room := { frames := 1, cells := 0, slots := 0, locals := 20 }
def fX3_init  (t0 : Nat) (v1 : Int32) (v2 : Int32) (v3 : Int32) (v4 : Int32) (h : Hp) : Option (Unit × Hp) :=
  gk (h.1 t0) 4 <|
  nm (hp_si h t0 0 v1) fun g2 =>
  nm (hp_si g2 t0 1 v2) fun g4 =>
  nm (hp_si g4 t0 2 v3) fun g6 =>
  nm (hp_si g6 t0 3 v4) fun g8 =>
  some ((), g8)
section
variable {p : Program} {l : Launch} {e : Env} {s : State} {m : MethodId} {args : Array Value} {below : List Frame} {meth : Method} {c : Code} {D : va_G} {cA : Nat → ClassId} {h0 h9 : Hp}
set_option maxHeartbeats 4000000 in
set_option maxRecDepth 100000 in
theorem tX3_init_0  (cx : CallFix p m c prog_5_method_1_code 5 s args tbG RX3) (hr : meth.sig.returnType = none) (hlk : meth.locks = false) (hnm : meth.name = "<init>")  (t0 : Nat) (v1 : Int32) (v2 : Int32) (v3 : Int32) (v4 : Int32) (h : Hp) (H : Heap) (locs : List Loc) (ls : Array Slot) (hB : hp_B D cA (hp_A h0) s h H locs) (hl : lv_has ls 5 [(0, .ref t0), (1, .int v1), (2, .int v2), (3, .int v3), (4, .int v4)]) (hf : fX3_init  t0 v1 v2 v3 v4 h = some ((), h9)) : W p l e rmX3_init s m args below meth c H locs 0 0 (MQ below (hp_Qv D cA h0 h9) args s 0 0 (hp_A h0)) (F0 m 0 ls []) := by
  obtain ⟨hx, hb, -⟩ := id cx
  unfold fX3_init at hf
  refine lv_aload_n hx hb dX3_init_0 rfl (lv_at hl 0 rfl) ?_
  refine W.objInit hx hb cx.2.2.2.1 (cx.2.2.2.2 _ (tb_in qw_334 rfl)) (cx.2.2.2.2 _ (tb_in qw_22 rfl)) (cx.2.2.2.2 _ (tb_in qw_23 rfl)) rfl (by rw [cx.2.2.1]; exact hl.1) rfl dX3_init_1 (Nat.le_of_ble_eq_true rfl) (Nat.le_of_ble_eq_true rfl) ?_
  refine W.eq (g2 := F0 m 4 ls []) rfl ?_
  refine lv_aload_n hx hb dX3_init_4 rfl (lv_at hl 0 rfl) ?_
  refine lv_iload_n hx hb dX3_init_5 rfl (lv_at hl 1 rfl) ?_
  obtain ⟨k1, hf⟩ := gk_ok hf
  obtain ⟨g2, eg2, hf⟩ := nm_ok hf
  refine pf_X3_7 cx hB k1 dX3_init_6 (fun H locs hB => ?_)
  rw [← eg2] at hB
  refine lv_aload_n hx hb dX3_init_9 rfl (lv_at hl 0 rfl) ?_
  refine lv_iload_n hx hb dX3_init_10 rfl (lv_at hl 2 rfl) ?_
  have k3 : g2.1 t0 = 4 := by rw [eg2]; exact k1
  obtain ⟨g4, eg4, hf⟩ := nm_ok hf
  refine pf_X3_13 cx hB hnm k3 dX3_init_11 (fun H locs hB => ?_)
  rw [← eg4] at hB
  refine lv_aload_n hx hb dX3_init_14 rfl (lv_at hl 0 rfl) ?_
  refine lv_iload_n hx hb dX3_init_15 rfl (lv_at hl 3 rfl) ?_
  have k5 : g4.1 t0 = 4 := by rw [eg4]; exact k3
  obtain ⟨g6, eg6, hf⟩ := nm_ok hf
  refine pf_X3_16 cx hB k5 dX3_init_16 (fun H locs hB => ?_)
  rw [← eg6] at hB
  refine lv_aload_n hx hb dX3_init_19 rfl (lv_at hl 0 rfl) ?_
  refine lv_iload hx hb dX3_init_20 (lv_at hl 4 rfl) ?_
  have k7 : g6.1 t0 = 4 := by rw [eg6]; exact k5
  obtain ⟨g8, eg8, hf⟩ := nm_ok hf
  refine pf_X3_19 cx hB k7 dX3_init_22 (fun H locs hB => ?_)
  rw [← eg8] at hB
  obtain ⟨-, rfl⟩ := rt_ok hf
  exact hp_vret cx hB hr hlk (Nat.le_of_ble_eq_true rfl) (Nat.le_of_ble_eq_true rfl) dX3_init_25
end
set_option maxHeartbeats 4000000 in
set_option maxRecDepth 100000 in
theorem cX3_init (l : Launch) (D : va_G) (cA : Nat → ClassId) (t0 : Nat) (v1 : Int32) (v2 : Int32) (v3 : Int32) (v4 : Int32) (h : Hp) (_u : Unit) (h9 : Hp) (hf : fX3_init t0 v1 v2 v3 v4 h = some (_u, h9)) : hp_M l yX3_init prog_5_method_1_code 5 none rmX3_init D cA h [.ref t0, .int v1, .int v2, .int v3, .int v4] (hp_Qv D cA h h9) := by
  refine Met.ofW (cc := prog_5_method_1_code) (maxL := 5) (ret := none) (by decide) rfl ?_
  intro p e s m args below meth c s₁ B hml hv
  obtain ⟨rfl, hU⟩ := hv
  have hts := atoms_spec (ws := Cond.code yX3_init prog_5_method_1_code 5 none :: tbG) B.pre
  have hl := lv_entry ([.ref t0, .int v1, .int v2, .int v3, .int v4]) (n := 5) (Nat.le_of_ble_eq_true rfl)
  rw [lg_entry_eq]
  generalize (lg_sl ([.ref t0, .int v1, .int v2, .int v3, .int v4]) ++ List.replicate (5 - (lg_sl ([.ref t0, .int v1, .int v2, .int v3, .int v4])).length) Slot.unset).toArray = ls at hl ⊢
  exact tX3_init_0 ⟨B.exec, B.bytes, hml, findClass_of_methodNamed B.named, fun w hw => hts w (List.mem_cons_of_mem _ hw)⟩ B.returns B.notSynchronized ((name_of_methodNamed B.named B.method).1) t0 v1 v2 v3 v4 h _ _ _ (hp_B.entry hU) hl hf
section
variable {p : Program} {l : Launch} {e : Env} {R : Room} {s : State} {m : MethodId} {args : Array Value} {below : List Frame} {meth : Method} {c : Code} {H : Heap} {locs : List Loc} {cells slots : Nat} {Q : State → Prop}
variable {cc : ByteArray} {pc nL : Nat} {ls : Array Slot} {rest : List Value} {D : va_G} {cA : Nat → ClassId} {A : Nat → Prop} {a : Nat} {h : Hp}
theorem gf_X3_16 (cx : CallFix p m c cc nL s args tbG RX3) (hB : hp_B D cA A s h H locs) (hka : h.1 a = 4) (hdg : decode cc pc = .ok (.getfield 16, 3)) (kk : W p l e R s m args below meth c H locs cells slots Q (F0 m (pc + 3) ls (.int (h.2.2.1 a 2) :: rest))) : W p l e R s m args below meth c H locs cells slots Q (F0 m pc ls (.ref a :: rest)) :=
  hp_getI cx hB (ci := 3) 2 rfl inX3 (by decide) rfl (by decide) rfl qw_343 hka hdg kk
end
abbrev yX3_speaksOf : MethodName := ⟨"SpokenMenus$Line", "speaksOf", "(I)Z"⟩
theorem dX3_speaksOf_0 : decode prog_5_method_2_code 0 = .ok (.aload_n 0, 1) := by decide +kernel
theorem dX3_speaksOf_1 : decode prog_5_method_2_code 1 = .ok (.getfield 16, 3) := by decide +kernel
theorem dX3_speaksOf_4 : decode prog_5_method_2_code 4 = .ok (.iload_n 1, 1) := by decide +kernel
theorem dX3_speaksOf_5 : decode prog_5_method_2_code 5 = .ok (.ishr, 1) := by decide +kernel
theorem dX3_speaksOf_6 : decode prog_5_method_2_code 6 = .ok (.iconst 1, 1) := by decide +kernel
theorem dX3_speaksOf_7 : decode prog_5_method_2_code 7 = .ok (.iand, 1) := by decide +kernel
theorem dX3_speaksOf_8 : decode prog_5_method_2_code 8 = .ok (.ifCond .eq 7, 3) := by decide +kernel
theorem dX3_speaksOf_11 : decode prog_5_method_2_code 11 = .ok (.iconst 1, 1) := by decide +kernel
theorem dX3_speaksOf_12 : decode prog_5_method_2_code 12 = .ok (.goto 4, 3) := by decide +kernel
theorem dX3_speaksOf_15 : decode prog_5_method_2_code 15 = .ok (.iconst 0, 1) := by decide +kernel
theorem dX3_speaksOf_16 : decode prog_5_method_2_code 16 = .ok (.ireturn, 1) := by decide +kernel
abbrev rmX3_speaksOf : Room := { frames := 0, cells := 0, slots := 0, locals := 0 }
def fX3_speaksOf  (t0 : Nat) (v1 : Int32) (h : Hp) : Option (Int32 × Hp) :=
  gk (h.1 t0) 4 <|
  if (((h.2.2.1 t0 2) >>> (v1 &&& 31)) &&& 1) = 0 then
  (some (0, h))
  else
  (some (1, h))
section
variable {p : Program} {l : Launch} {e : Env} {s : State} {m : MethodId} {args : Array Value} {below : List Frame} {meth : Method} {c : Code} {D : va_G} {cA : Nat → ClassId} {h0 h9 : Hp}
set_option maxHeartbeats 4000000 in
set_option maxRecDepth 100000 in
theorem tX3_speaksOf_0  {r : Int32} (cx : CallFix p m c prog_5_method_2_code 2 s args tbG RX3) (hr : meth.sig.returnType = (Option.some FieldType.boolean)) (hlk : meth.locks = false)  (t0 : Nat) (v1 : Int32) (h : Hp) (H : Heap) (locs : List Loc) (ls : Array Slot) (hB : hp_B D cA (hp_A h0) s h H locs) (hl : lv_has ls 2 [(0, .ref t0), (1, .int v1)]) (hf : fX3_speaksOf  t0 v1 h = some (r, h9)) : W p l e rmX3_speaksOf s m args below meth c H locs 0 0 (MQ below (hp_Qi D cA h0 h9 r) args s 0 0 (hp_A h0)) (F0 m 0 ls []) := by
  obtain ⟨hx, hb, -⟩ := id cx
  unfold fX3_speaksOf at hf
  refine lv_aload_n hx hb dX3_speaksOf_0 rfl (lv_at hl 0 rfl) ?_
  obtain ⟨k1, hf⟩ := gk_ok hf
  refine gf_X3_16 cx hB k1 dX3_speaksOf_1 ?_
  refine lv_iload_n hx hb dX3_speaksOf_4 rfl (lv_at hl 1 rfl) ?_
  refine lv_ishr hx hb dX3_speaksOf_5 ?_
  refine lv_iconst (v := 1) hx hb dX3_speaksOf_6 (by decide) ?_
  refine lv_iand hx hb dX3_speaksOf_7 ?_
  refine lv_if_eq (tgt := 15) hx hb dX3_speaksOf_8 (by decide) (fun c2 => ?_) (fun c2 => ?_)
  · replace hf := it_t c2 hf
    refine lv_iconst (v := 0) hx hb dX3_speaksOf_15 (by decide) ?_
    obtain ⟨rfl, rfl⟩ := rt_ok hf
    exact hp_zret cx hB hr hlk (Nat.le_of_ble_eq_true rfl) (Nat.le_of_ble_eq_true rfl) rfl dX3_speaksOf_16
  · replace hf := it_f c2 hf
    refine lv_iconst (v := 1) hx hb dX3_speaksOf_11 (by decide) ?_
    refine lv_goto (tgt := 16) hx hb dX3_speaksOf_12 (by decide) ?_
    obtain ⟨rfl, rfl⟩ := rt_ok hf
    exact hp_zret cx hB hr hlk (Nat.le_of_ble_eq_true rfl) (Nat.le_of_ble_eq_true rfl) rfl dX3_speaksOf_16
end
set_option maxHeartbeats 4000000 in
set_option maxRecDepth 100000 in
theorem cX3_speaksOf (l : Launch) (D : va_G) (cA : Nat → ClassId) (t0 : Nat) (v1 : Int32) (h : Hp) (r : Int32) (h9 : Hp) (hf : fX3_speaksOf t0 v1 h = some (r, h9)) : hp_M l yX3_speaksOf prog_5_method_2_code 2 (Option.some FieldType.boolean) rmX3_speaksOf D cA h [.ref t0, .int v1] (hp_Qi D cA h h9 r) := by
  refine Met.ofW (cc := prog_5_method_2_code) (maxL := 2) (ret := (Option.some FieldType.boolean)) (by decide) rfl ?_
  intro p e s m args below meth c s₁ B hml hv
  obtain ⟨rfl, hU⟩ := hv
  have hts := atoms_spec (ws := Cond.code yX3_speaksOf prog_5_method_2_code 2 (Option.some FieldType.boolean) :: tbG) B.pre
  have hl := lv_entry ([.ref t0, .int v1]) (n := 2) (Nat.le_of_ble_eq_true rfl)
  rw [lg_entry_eq]
  generalize (lg_sl ([.ref t0, .int v1]) ++ List.replicate (2 - (lg_sl ([.ref t0, .int v1])).length) Slot.unset).toArray = ls at hl ⊢
  exact tX3_speaksOf_0 ⟨B.exec, B.bytes, hml, findClass_of_methodNamed B.named, fun w hw => hts w (List.mem_cons_of_mem _ hw)⟩ B.returns B.notSynchronized t0 v1 h _ _ _ (hp_B.entry hU) hl hf
section
variable {p : Program} {l : Launch} {e : Env} {R : Room} {s : State} {m : MethodId} {args : Array Value} {below : List Frame} {meth : Method} {c : Code} {H : Heap} {locs : List Loc} {cells slots : Nat} {Q : State → Prop}
variable {cc : ByteArray} {pc nL : Nat} {ls : Array Slot} {rest : List Value} {D : va_G} {cA : Nat → ClassId} {A : Nat → Prop} {a : Nat} {h : Hp}
theorem pf_X4_9 (cx : CallFix p m c cc nL s args tbG RX4) (hB : hp_B D cA A s h H locs) (hnm : meth.name = "<init>") (hka : h.1 a = 5) {b : Nat} (hdg : decode cc pc = .ok (.putfield 9, 3)) (kk : ∀ (H1 : Heap) (locs1 : List Loc), hp_B D cA A s (hp_sr h a 0 (some b)) H1 locs1 → W p l e R s m args below meth c H1 locs1 cells slots Q (F0 m (pc + 3) ls rest)) : W p l e R s m args below meth c H locs cells slots Q (F0 m pc ls (.ref b :: .ref a :: rest)) :=
  hp_putX cx hB (ci := 4) 0 tyX4 tyX4_ok nmX4 rfl inX4 (by decide) rfl (by decide) (Or.inr ⟨rfl, hnm, rfl⟩) qw_98 hka (v := va_rf (some b)) (hp_like_sr h a 0 (some b)) (hp_fs_sr (by decide) rfl) rfl rfl hdg kk
theorem pf_X4_15 (cx : CallFix p m c cc nL s args tbG RX4) (hB : hp_B D cA A s h H locs) (hnm : meth.name = "<init>") (hka : h.1 a = 5) {b : Nat} (hdg : decode cc pc = .ok (.putfield 15, 3)) (kk : ∀ (H1 : Heap) (locs1 : List Loc), hp_B D cA A s (hp_sr h a 1 (some b)) H1 locs1 → W p l e R s m args below meth c H1 locs1 cells slots Q (F0 m (pc + 3) ls rest)) : W p l e R s m args below meth c H locs cells slots Q (F0 m pc ls (.ref b :: .ref a :: rest)) :=
  hp_putX cx hB (ci := 4) 1 tyX4 tyX4_ok nmX4 rfl inX4 (by decide) rfl (by decide) (Or.inr ⟨rfl, hnm, rfl⟩) qw_99 hka (v := va_rf (some b)) (hp_like_sr h a 1 (some b)) (hp_fs_sr (by decide) rfl) rfl rfl hdg kk
theorem pf_X4_20 (cx : CallFix p m c cc nL s args tbG RX4) (hB : hp_B D cA A s h H locs) (hnm : meth.name = "<init>") (hka : h.1 a = 5) {b : Nat} (hdg : decode cc pc = .ok (.putfield 20, 3)) (kk : ∀ (H1 : Heap) (locs1 : List Loc), hp_B D cA A s (hp_sr h a 2 (some b)) H1 locs1 → W p l e R s m args below meth c H1 locs1 cells slots Q (F0 m (pc + 3) ls rest)) : W p l e R s m args below meth c H locs cells slots Q (F0 m pc ls (.ref b :: .ref a :: rest)) :=
  hp_putX cx hB (ci := 4) 2 tyX4 tyX4_ok nmX4 rfl inX4 (by decide) rfl (by decide) (Or.inr ⟨rfl, hnm, rfl⟩) qw_101 hka (v := va_rf (some b)) (hp_like_sr h a 2 (some b)) (hp_fs_sr (by decide) rfl) rfl rfl hdg kk
end
abbrev yX4_init : MethodName := ⟨"SpokenMenus$Ordering", "<init>", "()V"⟩
theorem dX4_init_0 : decode prog_6_method_1_code 0 = .ok (.aload_n 0, 1) := by decide +kernel
theorem dX4_init_1 : decode prog_6_method_1_code 1 = .ok (.invokespecial 3, 3) := by decide +kernel
theorem dX4_init_4 : decode prog_6_method_1_code 4 = .ok (.aload_n 0, 1) := by decide +kernel
theorem dX4_init_5 : decode prog_6_method_1_code 5 = .ok (.bipush 6, 2) := by decide +kernel
theorem dX4_init_7 : decode prog_6_method_1_code 7 = .ok (.newarray .int, 2) := by decide +kernel
theorem dX4_init_9 : decode prog_6_method_1_code 9 = .ok (.putfield 9, 3) := by decide +kernel
theorem dX4_init_12 : decode prog_6_method_1_code 12 = .ok (.aload_n 0, 1) := by decide +kernel
theorem dX4_init_13 : decode prog_6_method_1_code 13 = .ok (.bipush 6, 2) := by decide +kernel
theorem dX4_init_15 : decode prog_6_method_1_code 15 = .ok (.newarray .int, 2) := by decide +kernel
theorem dX4_init_17 : decode prog_6_method_1_code 17 = .ok (.putfield 15, 3) := by decide +kernel
theorem dX4_init_20 : decode prog_6_method_1_code 20 = .ok (.aload_n 0, 1) := by decide +kernel
theorem dX4_init_21 : decode prog_6_method_1_code 21 = .ok (.bipush 6, 2) := by decide +kernel
theorem dX4_init_23 : decode prog_6_method_1_code 23 = .ok (.anewarray 18, 3) := by decide +kernel
theorem dX4_init_26 : decode prog_6_method_1_code 26 = .ok (.putfield 20, 3) := by decide +kernel
theorem dX4_init_29 : decode prog_6_method_1_code 29 = .ok (.return_, 1) := by decide +kernel
abbrev rmX4_init : Room := { frames := 1, cells := 3, slots := 18, locals := 20 }
def fX4_init  (t0 : Nat) (h : Hp) : Option (Unit × Hp) :=
  nm h.2.2.2.2 fun a1 =>
  nm (hp_nw h 13 6) fun g2 =>
  gk (g2.1 t0) 5 <|
  nm (hp_sr g2 t0 0 (some a1)) fun g5 =>
  nm g5.2.2.2.2 fun a6 =>
  nm (hp_nw g5 13 6) fun g7 =>
  gk (g7.1 t0) 5 <|
  nm (hp_sr g7 t0 1 (some a6)) fun g10 =>
  nm g10.2.2.2.2 fun a11 =>
  nm (hp_nw g10 16 6) fun g12 =>
  gk (g12.1 t0) 5 <|
  nm (hp_sr g12 t0 2 (some a11)) fun g15 =>
  some ((), g15)
section
variable {p : Program} {l : Launch} {e : Env} {s : State} {m : MethodId} {args : Array Value} {below : List Frame} {meth : Method} {c : Code} {D : va_G} {cA : Nat → ClassId} {h0 h9 : Hp}
set_option maxHeartbeats 4000000 in
set_option maxRecDepth 100000 in
theorem tX4_init_0  (cx : CallFix p m c prog_6_method_1_code 1 s args tbG RX4) (hr : meth.sig.returnType = none) (hlk : meth.locks = false) (hnm : meth.name = "<init>")  (t0 : Nat) (h : Hp) (H : Heap) (locs : List Loc) (ls : Array Slot) (hB : hp_B D cA (hp_A h0) s h H locs) (hl : lv_has ls 1 [(0, .ref t0)]) (hf : fX4_init  t0 h = some ((), h9)) : W p l e rmX4_init s m args below meth c H locs 0 0 (MQ below (hp_Qv D cA h0 h9) args s 3 18 (hp_A h0)) (F0 m 0 ls []) := by
  obtain ⟨hx, hb, -⟩ := id cx
  unfold fX4_init at hf
  refine lv_aload_n hx hb dX4_init_0 rfl (lv_at hl 0 rfl) ?_
  refine W.objInit hx hb cx.2.2.2.1 (cx.2.2.2.2 _ (tb_in qw_95 rfl)) (cx.2.2.2.2 _ (tb_in qw_22 rfl)) (cx.2.2.2.2 _ (tb_in qw_23 rfl)) rfl (by rw [cx.2.2.1]; exact hl.1) rfl dX4_init_1 (Nat.le_of_ble_eq_true rfl) (Nat.le_of_ble_eq_true rfl) ?_
  refine W.eq (g2 := F0 m 4 ls []) rfl ?_
  refine lv_aload_n hx hb dX4_init_4 rfl (lv_at hl 0 rfl) ?_
  refine lv_bipush (v := 6) hx hb dX4_init_5 (by decide) ?_
  obtain ⟨a1, ea1, hf⟩ := nm_ok hf
  obtain ⟨g2, eg2, hf⟩ := nm_ok hf
  refine hp_newa cx hB 13 (N' := 6) (ty := .int) rfl (by decide) rfl (fun h9 => h9) rfl qw_54 ea1 (by decide) (by decide) (by decide) (Nat.le_of_ble_eq_true rfl) (Nat.le_of_ble_eq_true rfl) dX4_init_7 (fun H hB => ?_)
  rw [← eg2] at hB
  have k3 : g2.1 a1 = 13 := by rw [eg2, ea1]; exact va_up_self _ _ _
  obtain ⟨k4, hf⟩ := gk_ok hf
  obtain ⟨g5, eg5, hf⟩ := nm_ok hf
  refine pf_X4_9 cx hB hnm k4 dX4_init_9 (fun H locs hB => ?_)
  rw [← eg5] at hB
  refine lv_aload_n hx hb dX4_init_12 rfl (lv_at hl 0 rfl) ?_
  refine lv_bipush (v := 6) hx hb dX4_init_13 (by decide) ?_
  obtain ⟨a6, ea6, hf⟩ := nm_ok hf
  obtain ⟨g7, eg7, hf⟩ := nm_ok hf
  refine hp_newa cx hB 13 (N' := 6) (ty := .int) rfl (by decide) rfl (fun h9 => h9) rfl qw_54 ea6 (by decide) (by decide) (by decide) (Nat.le_of_ble_eq_true rfl) (Nat.le_of_ble_eq_true rfl) dX4_init_15 (fun H hB => ?_)
  rw [← eg7] at hB
  have k8 : g7.1 a6 = 13 := by rw [eg7, ea6]; exact va_up_self _ _ _
  obtain ⟨k9, hf⟩ := gk_ok hf
  obtain ⟨g10, eg10, hf⟩ := nm_ok hf
  refine pf_X4_15 cx hB hnm k9 dX4_init_17 (fun H locs hB => ?_)
  rw [← eg10] at hB
  refine lv_aload_n hx hb dX4_init_20 rfl (lv_at hl 0 rfl) ?_
  refine lv_bipush (v := 6) hx hb dX4_init_21 (by decide) ?_
  obtain ⟨a11, ea11, hf⟩ := nm_ok hf
  obtain ⟨g12, eg12, hf⟩ := nm_ok hf
  refine hp_newq cx hB 16 (N' := 6) (by decide) rfl qw_96 (fun h9 => h9.2.2.1) ea11 (by decide) (by decide) (by decide) (Nat.le_of_ble_eq_true rfl) (Nat.le_of_ble_eq_true rfl) dX4_init_23 (fun H hB => ?_)
  rw [← eg12] at hB
  have k13 : g12.1 a11 = 16 := by rw [eg12, ea11]; exact va_up_self _ _ _
  obtain ⟨k14, hf⟩ := gk_ok hf
  obtain ⟨g15, eg15, hf⟩ := nm_ok hf
  refine pf_X4_20 cx hB hnm k14 dX4_init_26 (fun H locs hB => ?_)
  rw [← eg15] at hB
  obtain ⟨-, rfl⟩ := rt_ok hf
  exact hp_vret cx hB hr hlk (Nat.le_of_ble_eq_true rfl) (Nat.le_of_ble_eq_true rfl) dX4_init_29
end
set_option maxHeartbeats 4000000 in
set_option maxRecDepth 100000 in
theorem cX4_init (l : Launch) (D : va_G) (cA : Nat → ClassId) (t0 : Nat) (h : Hp) (_u : Unit) (h9 : Hp) (hf : fX4_init t0 h = some (_u, h9)) : hp_M l yX4_init prog_6_method_1_code 1 none rmX4_init D cA h [.ref t0] (hp_Qv D cA h h9) := by
  refine Met.ofW (cc := prog_6_method_1_code) (maxL := 1) (ret := none) (by decide) rfl ?_
  intro p e s m args below meth c s₁ B hml hv
  obtain ⟨rfl, hU⟩ := hv
  have hts := atoms_spec (ws := Cond.code yX4_init prog_6_method_1_code 1 none :: tbG) B.pre
  have hl := lv_entry ([.ref t0]) (n := 1) (Nat.le_of_ble_eq_true rfl)
  rw [lg_entry_eq]
  generalize (lg_sl ([.ref t0]) ++ List.replicate (1 - (lg_sl ([.ref t0])).length) Slot.unset).toArray = ls at hl ⊢
  exact tX4_init_0 ⟨B.exec, B.bytes, hml, findClass_of_methodNamed B.named, fun w hw => hts w (List.mem_cons_of_mem _ hw)⟩ B.returns B.notSynchronized ((name_of_methodNamed B.named B.method).1) t0 h _ _ _ (hp_B.entry hU) hl hf
abbrev yJ7_fill_53178 : MethodName := ⟨"java/util/Arrays", "fill", "([II)V"⟩
theorem dJ7_fill_53178_0 : decode prog_16_method_103_code 0 = .ok (.iconst 0, 1) := by decide +kernel
theorem dJ7_fill_53178_1 : decode prog_16_method_103_code 1 = .ok (.istore_n 2, 1) := by decide +kernel
theorem dJ7_fill_53178_2 : decode prog_16_method_103_code 2 = .ok (.aload_n 0, 1) := by decide +kernel
theorem dJ7_fill_53178_3 : decode prog_16_method_103_code 3 = .ok (.arraylength, 1) := by decide +kernel
theorem dJ7_fill_53178_4 : decode prog_16_method_103_code 4 = .ok (.istore_n 3, 1) := by decide +kernel
theorem dJ7_fill_53178_5 : decode prog_16_method_103_code 5 = .ok (.iload_n 2, 1) := by decide +kernel
theorem dJ7_fill_53178_6 : decode prog_16_method_103_code 6 = .ok (.iload_n 3, 1) := by decide +kernel
theorem dJ7_fill_53178_7 : decode prog_16_method_103_code 7 = .ok (.if_icmp .ge 13, 3) := by decide +kernel
theorem dJ7_fill_53178_10 : decode prog_16_method_103_code 10 = .ok (.aload_n 0, 1) := by decide +kernel
theorem dJ7_fill_53178_11 : decode prog_16_method_103_code 11 = .ok (.iload_n 2, 1) := by decide +kernel
theorem dJ7_fill_53178_12 : decode prog_16_method_103_code 12 = .ok (.iload_n 1, 1) := by decide +kernel
theorem dJ7_fill_53178_13 : decode prog_16_method_103_code 13 = .ok (.iastore, 1) := by decide +kernel
theorem dJ7_fill_53178_14 : decode prog_16_method_103_code 14 = .ok (.iinc 2 1, 3) := by decide +kernel
theorem dJ7_fill_53178_17 : decode prog_16_method_103_code 17 = .ok (.goto (-12), 3) := by decide +kernel
theorem dJ7_fill_53178_20 : decode prog_16_method_103_code 20 = .ok (.return_, 1) := by decide +kernel
abbrev rmJ7_fill_53178 : Room := { frames := 0, cells := 0, slots := 0, locals := 0 }
def bJ7_fill_53178_5  (rc : Nat → Int32 → Int32 → Int32 → Hp → Option (Unit × Hp)) (t0 : Nat) (v1 : Int32) (v2 : Int32) (v3 : Int32) (h : Hp) : Option (Unit × Hp) :=
  if v3 ≤ v2 then
  (some ((), h))
  else
  (gk (h.1 t0) 13 <|
  gd (ix v2 (h.2.1 t0)) <|
  nm (hp_si h t0 v2.toNatClampNeg v1) fun g4 =>
  nm (v2 + 1) fun x5 =>
  rc t0 v1 x5 v3 g4)
def fJ7_fill_53178_5  : Nat → Int32 → Int32 → Int32 → Hp → Option (Unit × Hp) := fx (bJ7_fill_53178_5 ) (fun _ _ _ _ _ => none) NF
def fJ7_fill_53178  (w0 : Option Nat) (v1 : Int32) (h : Hp) : Option (Unit × Hp) :=
  bd w0 fun a1 =>
  gk (h.1 a1) 13 <|
  nm (Int32.ofNat (h.2.1 a1)) fun x3 =>
  fJ7_fill_53178_5  a1 v1 0 x3 h
section
variable {p : Program} {l : Launch} {e : Env} {s : State} {m : MethodId} {args : Array Value} {below : List Frame} {meth : Method} {c : Code} {D : va_G} {cA : Nat → ClassId} {h0 h9 : Hp}
set_option maxHeartbeats 4000000 in
set_option maxRecDepth 100000 in
theorem tJ7_fill_53178_5  (cx : CallFix p m c prog_16_method_103_code 4 s args tbG "java/util/Arrays") (hr : meth.sig.returnType = none) (hlk : meth.locks = false)  (n : Nat) : ∀ (t0 : Nat) (v1 : Int32) (v2 : Int32) (v3 : Int32) (h : Hp) (H : Heap) (locs : List Loc) (ls : Array Slot), hp_B D cA (hp_A h0) s h H locs → lv_has ls 4 [(0, .ref t0), (1, .int v1), (2, .int v2), (3, .int v3)] → fx (bJ7_fill_53178_5 ) (fun _ _ _ _ _ => none) n t0 v1 v2 v3 h = some ((), h9) → W p l e rmJ7_fill_53178 s m args below meth c H locs 0 0 (MQ below (hp_Qv D cA h0 h9) args s 0 0 (hp_A h0)) (F0 m 5 ls []) := by
  obtain ⟨hx, hb, -⟩ := id cx
  induction n with
  | zero => intro t0 v1 v2 v3 h H locs ls hB hl hf; cases hf
  | succ n ih =>
    intro t0 v1 v2 v3 h H locs ls hB hl hf
    replace hf : bJ7_fill_53178_5  (fx (bJ7_fill_53178_5 ) (fun _ _ _ _ _ => none) n) t0 v1 v2 v3 h = some ((), h9) := hf
    unfold bJ7_fill_53178_5 at hf
    refine lv_iload_n hx hb dJ7_fill_53178_5 rfl (lv_at hl 2 rfl) ?_
    refine lv_iload_n hx hb dJ7_fill_53178_6 rfl (lv_at hl 3 rfl) ?_
    refine lv_icmp_ge (tgt := 20) hx hb dJ7_fill_53178_7 (by decide) (fun c1 => ?_) (fun c1 => ?_)
    · replace hf := it_t c1 hf
      obtain ⟨-, rfl⟩ := rt_ok hf
      exact hp_vret cx hB hr hlk (Nat.le_of_ble_eq_true rfl) (Nat.le_of_ble_eq_true rfl) dJ7_fill_53178_20
    · replace hf := it_f c1 hf
      refine lv_aload_n hx hb dJ7_fill_53178_10 rfl (lv_at hl 0 rfl) ?_
      refine lv_iload_n hx hb dJ7_fill_53178_11 rfl (lv_at hl 2 rfl) ?_
      refine lv_iload_n hx hb dJ7_fill_53178_12 rfl (lv_at hl 1 rfl) ?_
      obtain ⟨k2, hf⟩ := gk_ok hf
      obtain ⟨j3, hf⟩ := gd_ok hf
      obtain ⟨g4, eg4, hf⟩ := nm_ok hf
      refine hp_iast cx hB k2 j3 dJ7_fill_53178_13 (fun H locs hB => ?_)
      rw [← eg4] at hB
      obtain ⟨x5, ex5, hf⟩ := nm_ok hf
      refine lv_iinc (v := x5) (lv' := [(2, .int x5), (0, .ref t0), (1, .int v1), (3, .int v3)]) hx hb dJ7_fill_53178_14 hl (k := 2) rfl (by rw [ex5]; rfl) (by decide) rfl (fun ls hl => ?_)
      refine lv_goto (tgt := 5) hx hb dJ7_fill_53178_17 (by decide) ?_
      exact ih t0 v1 x5 v3 g4 _ _ _ hB (lv_sub hl [1, 2, 0, 3] rfl) hf
set_option maxHeartbeats 4000000 in
set_option maxRecDepth 100000 in
theorem tJ7_fill_53178_0  (cx : CallFix p m c prog_16_method_103_code 4 s args tbG "java/util/Arrays") (hr : meth.sig.returnType = none) (hlk : meth.locks = false)  (w0 : Option Nat) (v1 : Int32) (h : Hp) (H : Heap) (locs : List Loc) (ls : Array Slot) (hB : hp_B D cA (hp_A h0) s h H locs) (hl : lv_has ls 4 [(0, va_rf w0), (1, .int v1)]) (hf : fJ7_fill_53178  w0 v1 h = some ((), h9)) : W p l e rmJ7_fill_53178 s m args below meth c H locs 0 0 (MQ below (hp_Qv D cA h0 h9) args s 0 0 (hp_A h0)) (F0 m 0 ls []) := by
  obtain ⟨hx, hb, -⟩ := id cx
  unfold fJ7_fill_53178 at hf
  refine lv_iconst (v := 0) hx hb dJ7_fill_53178_0 (by decide) ?_
  refine lv_istore_n (lv' := [(2, .int 0), (0, va_rf w0), (1, .int v1)]) hx hb dJ7_fill_53178_1 rfl hl (by decide) rfl (fun ls hl => ?_)
  refine lq_aload_n hx hb dJ7_fill_53178_2 rfl (lv_at hl 1 rfl) ?_
  obtain ⟨a1, eo, hf⟩ := bd_ok hf
  subst eo
  obtain ⟨k2, hf⟩ := gk_ok hf
  refine hp_alen cx hB 13 .int (by decide) rfl k2 dJ7_fill_53178_3 ?_
  obtain ⟨x3, ex3, hf⟩ := nm_ok hf
  refine lv_ren ex3 ?_
  refine lv_istore_n (lv' := [(3, .int x3), (2, .int 0), (0, .ref a1), (1, .int v1)]) hx hb dJ7_fill_53178_4 rfl hl (by decide) rfl (fun ls hl => ?_)
  exact tJ7_fill_53178_5 cx hr hlk  NF a1 v1 0 x3 h _ _ _ hB (lv_sub hl [2, 3, 1, 0] rfl) hf
end
set_option maxHeartbeats 4000000 in
set_option maxRecDepth 100000 in
theorem cJ7_fill_53178 (l : Launch) (D : va_G) (cA : Nat → ClassId) (w0 : Option Nat) (v1 : Int32) (h : Hp) (_u : Unit) (h9 : Hp) (hf : fJ7_fill_53178 w0 v1 h = some (_u, h9)) : hp_M l yJ7_fill_53178 prog_16_method_103_code 4 none rmJ7_fill_53178 D cA h [va_rf w0, .int v1] (hp_Qv D cA h h9) := by
  refine Met.ofW (cc := prog_16_method_103_code) (maxL := 4) (ret := none) (by decide) rfl ?_
  intro p e s m args below meth c s₁ B hml hv
  obtain ⟨rfl, hU⟩ := hv
  have hts := atoms_spec (ws := Cond.code yJ7_fill_53178 prog_16_method_103_code 4 none :: tbG) B.pre
  have hl := lv_entry ([va_rf w0, .int v1]) (n := 4) (by simp [lg_sl, va_rf_cat, cat_i, cat_r, cat_n])
  rw [show lv_args 0 ([va_rf w0, .int v1]) = [(0, va_rf w0), (1, .int v1)] by simp [lv_args, va_rf_cat, cat_i, cat_r, cat_n]] at hl
  rw [lg_entry_eq]
  generalize (lg_sl ([va_rf w0, .int v1]) ++ List.replicate (4 - (lg_sl ([va_rf w0, .int v1])).length) Slot.unset).toArray = ls at hl ⊢
  exact tJ7_fill_53178_0 ⟨B.exec, B.bytes, hml, findClass_of_methodNamed B.named, fun w hw => hts w (List.mem_cons_of_mem _ hw)⟩ B.returns B.notSynchronized w0 v1 h _ _ _ (hp_B.entry hU) hl hf
section
variable {p : Program} {l : Launch} {e : Env} {R : Room} {s : State} {m : MethodId} {args : Array Value} {below : List Frame} {meth : Method} {c : Code} {H : Heap} {locs : List Loc} {cells slots : Nat} {Q : State → Prop}
variable {cc : ByteArray} {pc nL : Nat} {ls : Array Slot} {rest : List Value} {D : va_G} {cA : Nat → ClassId} {A : Nat → Prop} {a : Nat} {h : Hp}
theorem gf_X4_9 (cx : CallFix p m c cc nL s args tbG RX4) (hB : hp_B D cA A s h H locs) (hka : h.1 a = 5) {b : Nat} (ho : h.2.2.2.1 a 0 = some b) (hdg : decode cc pc = .ok (.getfield 9, 3)) (kk : W p l e R s m args below meth c H locs cells slots Q (F0 m (pc + 3) ls (.ref b :: rest))) : W p l e R s m args below meth c H locs cells slots Q (F0 m pc ls (.ref a :: rest)) :=
  hp_getR cx hB (ci := 4) 0 rfl inX4 (by decide) rfl (by decide) rfl qw_98 hka (o := some b) ho.symm hdg kk
theorem cl_X4_24 {As st0 : List Value} {b : Nat} {Qc : Array Value → State → Outcome → State → Prop} (cx : CallFix p m c cc nL s args tbG RX4) (hB : hp_B D cA A s h H locs) (hM : hp_M l yJ7_fill_53178 prog_16_method_103_code 4 none rmJ7_fill_53178 D cA h As Qc) (hR : rmJ7_fill_53178.frames + 1 ≤ R.frames ∧ 8 + (4 + 11) + rmJ7_fill_53178.locals ≤ R.locals) (hn : As.length = 2) (hls : ls.size = nL) (hst : st0 = As.reverse ++ rest) (hW : (rest.map fun v => v.category).sum ≤ 8) (hf : cells + rmJ7_fill_53178.cells ≤ R.cells ∧ slots + rmJ7_fill_53178.slots ≤ R.slots) (hdg : decode cc pc = .ok (.invokestatic 24, 3)) :
    va_Run p l e R s m args below meth c H locs cells slots rmJ7_fill_53178.cells rmJ7_fill_53178.slots (F0 m pc ls st0) rest (Qc As.toArray) (hp_A h) :=
  hp_runS cx hB hM qw_119 qw_644 qw_118 qw_8 (by decide +kernel) hR hn hls hst hW hf hdg
end
abbrev yX4_forget : MethodName := ⟨"SpokenMenus$Ordering", "forget", "()V"⟩
theorem dX4_forget_0 : decode prog_6_method_2_code 0 = .ok (.aload_n 0, 1) := by decide +kernel
theorem dX4_forget_1 : decode prog_6_method_2_code 1 = .ok (.getfield 9, 3) := by decide +kernel
theorem dX4_forget_4 : decode prog_6_method_2_code 4 = .ok (.iconst 0, 1) := by decide +kernel
theorem dX4_forget_5 : decode prog_6_method_2_code 5 = .ok (.invokestatic 24, 3) := by decide +kernel
theorem dX4_forget_8 : decode prog_6_method_2_code 8 = .ok (.return_, 1) := by decide +kernel
abbrev rmX4_forget : Room := { frames := 1, cells := 0, slots := 0, locals := 23 }
def fX4_forget  (t0 : Nat) (h : Hp) : Option (Unit × Hp) :=
  gk (h.1 t0) 5 <|
  bd (h.2.2.2.1 t0 0) fun a2 =>
  b2 (fJ7_fill_53178 (some a2) 0 h) fun _ g4 =>
  some ((), g4)
section
variable {p : Program} {l : Launch} {e : Env} {s : State} {m : MethodId} {args : Array Value} {below : List Frame} {meth : Method} {c : Code} {D : va_G} {cA : Nat → ClassId} {h0 h9 : Hp}
set_option maxHeartbeats 4000000 in
set_option maxRecDepth 100000 in
theorem tX4_forget_0  (cx : CallFix p m c prog_6_method_2_code 1 s args tbG RX4) (hr : meth.sig.returnType = none) (hlk : meth.locks = false)  (t0 : Nat) (h : Hp) (H : Heap) (locs : List Loc) (ls : Array Slot) (hB : hp_B D cA (hp_A h0) s h H locs) (hl : lv_has ls 1 [(0, .ref t0)]) (hf : fX4_forget  t0 h = some ((), h9)) : W p l e rmX4_forget s m args below meth c H locs 0 0 (MQ below (hp_Qv D cA h0 h9) args s 0 0 (hp_A h0)) (F0 m 0 ls []) := by
  obtain ⟨hx, hb, -⟩ := id cx
  unfold fX4_forget at hf
  refine lv_aload_n hx hb dX4_forget_0 rfl (lv_at hl 0 rfl) ?_
  obtain ⟨k1, hf⟩ := gk_ok hf
  obtain ⟨a2, q3, hf⟩ := bd_ok hf
  refine gf_X4_9 cx hB k1 q3 dX4_forget_1 ?_
  refine lv_iconst (v := 0) hx hb dX4_forget_4 (by decide) ?_
  obtain ⟨uu, g4, m5, hf⟩ := b2_ok hf
  refine hp_cV0 (cl_X4_24 cx hB (cJ7_fill_53178 l D cA (some a2) 0 h _ g4 m5) ⟨Nat.le_of_ble_eq_true rfl, Nat.le_of_ble_eq_true rfl⟩ rfl hl.1 rfl (Nat.le_of_ble_eq_true rfl) ⟨Nat.le_of_ble_eq_true rfl, Nat.le_of_ble_eq_true rfl⟩ dX4_forget_5) rfl rfl hB (fun H locs hB => ?_)
  obtain ⟨-, rfl⟩ := rt_ok hf
  exact hp_vret cx hB hr hlk (Nat.le_of_ble_eq_true rfl) (Nat.le_of_ble_eq_true rfl) dX4_forget_8
end
set_option maxHeartbeats 4000000 in
set_option maxRecDepth 100000 in
theorem cX4_forget (l : Launch) (D : va_G) (cA : Nat → ClassId) (t0 : Nat) (h : Hp) (_u : Unit) (h9 : Hp) (hf : fX4_forget t0 h = some (_u, h9)) : hp_M l yX4_forget prog_6_method_2_code 1 none rmX4_forget D cA h [.ref t0] (hp_Qv D cA h h9) := by
  refine Met.ofW (cc := prog_6_method_2_code) (maxL := 1) (ret := none) (by decide) rfl ?_
  intro p e s m args below meth c s₁ B hml hv
  obtain ⟨rfl, hU⟩ := hv
  have hts := atoms_spec (ws := Cond.code yX4_forget prog_6_method_2_code 1 none :: tbG) B.pre
  have hl := lv_entry ([.ref t0]) (n := 1) (Nat.le_of_ble_eq_true rfl)
  rw [lg_entry_eq]
  generalize (lg_sl ([.ref t0]) ++ List.replicate (1 - (lg_sl ([.ref t0])).length) Slot.unset).toArray = ls at hl ⊢
  exact tX4_forget_0 ⟨B.exec, B.bytes, hml, findClass_of_methodNamed B.named, fun w hw => hts w (List.mem_cons_of_mem _ hw)⟩ B.returns B.notSynchronized t0 h _ _ _ (hp_B.entry hU) hl hf
abbrev yX4_addCallers : MethodName := ⟨"SpokenMenus$Ordering", "addCallers", "(II)V"⟩
theorem dX4_addCallers_0 : decode prog_6_method_3_code 0 = .ok (.iload_n 1, 1) := by decide +kernel
theorem dX4_addCallers_1 : decode prog_6_method_3_code 1 = .ok (.ifCond .lt 19, 3) := by decide +kernel
theorem dX4_addCallers_4 : decode prog_6_method_3_code 4 = .ok (.iload_n 1, 1) := by decide +kernel
theorem dX4_addCallers_5 : decode prog_6_method_3_code 5 = .ok (.bipush 6, 2) := by decide +kernel
theorem dX4_addCallers_7 : decode prog_6_method_3_code 7 = .ok (.if_icmp .ge 13, 3) := by decide +kernel
theorem dX4_addCallers_10 : decode prog_6_method_3_code 10 = .ok (.aload_n 0, 1) := by decide +kernel
theorem dX4_addCallers_11 : decode prog_6_method_3_code 11 = .ok (.getfield 9, 3) := by decide +kernel
theorem dX4_addCallers_14 : decode prog_6_method_3_code 14 = .ok (.iload_n 1, 1) := by decide +kernel
theorem dX4_addCallers_15 : decode prog_6_method_3_code 15 = .ok (.dup2, 1) := by decide +kernel
theorem dX4_addCallers_16 : decode prog_6_method_3_code 16 = .ok (.iaload, 1) := by decide +kernel
theorem dX4_addCallers_17 : decode prog_6_method_3_code 17 = .ok (.iload_n 2, 1) := by decide +kernel
theorem dX4_addCallers_18 : decode prog_6_method_3_code 18 = .ok (.iadd, 1) := by decide +kernel
theorem dX4_addCallers_19 : decode prog_6_method_3_code 19 = .ok (.iastore, 1) := by decide +kernel
theorem dX4_addCallers_20 : decode prog_6_method_3_code 20 = .ok (.return_, 1) := by decide +kernel
abbrev rmX4_addCallers : Room := { frames := 0, cells := 0, slots := 0, locals := 0 }
def fX4_addCallers  (t0 : Nat) (v1 : Int32) (v2 : Int32) (h : Hp) : Option (Unit × Hp) :=
  if v1 < 0 then
  (some ((), h))
  else
  (if 6 ≤ v1 then
  (some ((), h))
  else
  (gk (h.1 t0) 5 <|
  bd (h.2.2.2.1 t0 0) fun a4 =>
  gk (h.1 a4) 13 <|
  gd (ix v1 (h.2.1 a4)) <|
  gd (ix v1 (h.2.1 a4)) <|
  nm (hp_si h a4 v1.toNatClampNeg ((h.2.2.1 a4 v1.toNatClampNeg) + v2)) fun g9 =>
  some ((), g9)))
section
variable {p : Program} {l : Launch} {e : Env} {s : State} {m : MethodId} {args : Array Value} {below : List Frame} {meth : Method} {c : Code} {D : va_G} {cA : Nat → ClassId} {h0 h9 : Hp}
set_option maxHeartbeats 4000000 in
set_option maxRecDepth 100000 in
theorem tX4_addCallers_0  (cx : CallFix p m c prog_6_method_3_code 3 s args tbG RX4) (hr : meth.sig.returnType = none) (hlk : meth.locks = false)  (t0 : Nat) (v1 : Int32) (v2 : Int32) (h : Hp) (H : Heap) (locs : List Loc) (ls : Array Slot) (hB : hp_B D cA (hp_A h0) s h H locs) (hl : lv_has ls 3 [(0, .ref t0), (1, .int v1), (2, .int v2)]) (hf : fX4_addCallers  t0 v1 v2 h = some ((), h9)) : W p l e rmX4_addCallers s m args below meth c H locs 0 0 (MQ below (hp_Qv D cA h0 h9) args s 0 0 (hp_A h0)) (F0 m 0 ls []) := by
  obtain ⟨hx, hb, -⟩ := id cx
  unfold fX4_addCallers at hf
  refine lv_iload_n hx hb dX4_addCallers_0 rfl (lv_at hl 1 rfl) ?_
  refine lv_if_lt (tgt := 20) hx hb dX4_addCallers_1 (by decide) (fun c1 => ?_) (fun c1 => ?_)
  · replace hf := it_t c1 hf
    obtain ⟨-, rfl⟩ := rt_ok hf
    exact hp_vret cx hB hr hlk (Nat.le_of_ble_eq_true rfl) (Nat.le_of_ble_eq_true rfl) dX4_addCallers_20
  · replace hf := it_f c1 hf
    refine lv_iload_n hx hb dX4_addCallers_4 rfl (lv_at hl 1 rfl) ?_
    refine lv_bipush (v := 6) hx hb dX4_addCallers_5 (by decide) ?_
    refine lv_icmp_ge (tgt := 20) hx hb dX4_addCallers_7 (by decide) (fun c2 => ?_) (fun c2 => ?_)
    · replace hf := it_t c2 hf
      obtain ⟨-, rfl⟩ := rt_ok hf
      exact hp_vret cx hB hr hlk (Nat.le_of_ble_eq_true rfl) (Nat.le_of_ble_eq_true rfl) dX4_addCallers_20
    · replace hf := it_f c2 hf
      refine lv_aload_n hx hb dX4_addCallers_10 rfl (lv_at hl 0 rfl) ?_
      obtain ⟨k3, hf⟩ := gk_ok hf
      obtain ⟨a4, q5, hf⟩ := bd_ok hf
      refine gf_X4_9 cx hB k3 q5 dX4_addCallers_11 ?_
      refine lv_iload_n hx hb dX4_addCallers_14 rfl (lv_at hl 1 rfl) ?_
      refine lv_dup2_11 hx hb dX4_addCallers_15 rfl rfl ?_
      obtain ⟨k6, hf⟩ := gk_ok hf
      obtain ⟨j7, hf⟩ := gd_ok hf
      refine hp_iald cx hB k6 j7 dX4_addCallers_16 ?_
      refine lv_iload_n hx hb dX4_addCallers_17 rfl (lv_at hl 2 rfl) ?_
      refine lv_iadd hx hb dX4_addCallers_18 ?_
      obtain ⟨j8, hf⟩ := gd_ok hf
      obtain ⟨g9, eg9, hf⟩ := nm_ok hf
      refine hp_iast cx hB k6 j8 dX4_addCallers_19 (fun H locs hB => ?_)
      rw [← eg9] at hB
      obtain ⟨-, rfl⟩ := rt_ok hf
      exact hp_vret cx hB hr hlk (Nat.le_of_ble_eq_true rfl) (Nat.le_of_ble_eq_true rfl) dX4_addCallers_20
end
set_option maxHeartbeats 4000000 in
set_option maxRecDepth 100000 in
theorem cX4_addCallers (l : Launch) (D : va_G) (cA : Nat → ClassId) (t0 : Nat) (v1 : Int32) (v2 : Int32) (h : Hp) (_u : Unit) (h9 : Hp) (hf : fX4_addCallers t0 v1 v2 h = some (_u, h9)) : hp_M l yX4_addCallers prog_6_method_3_code 3 none rmX4_addCallers D cA h [.ref t0, .int v1, .int v2] (hp_Qv D cA h h9) := by
  refine Met.ofW (cc := prog_6_method_3_code) (maxL := 3) (ret := none) (by decide) rfl ?_
  intro p e s m args below meth c s₁ B hml hv
  obtain ⟨rfl, hU⟩ := hv
  have hts := atoms_spec (ws := Cond.code yX4_addCallers prog_6_method_3_code 3 none :: tbG) B.pre
  have hl := lv_entry ([.ref t0, .int v1, .int v2]) (n := 3) (Nat.le_of_ble_eq_true rfl)
  rw [lg_entry_eq]
  generalize (lg_sl ([.ref t0, .int v1, .int v2]) ++ List.replicate (3 - (lg_sl ([.ref t0, .int v1, .int v2])).length) Slot.unset).toArray = ls at hl ⊢
  exact tX4_addCallers_0 ⟨B.exec, B.bytes, hml, findClass_of_methodNamed B.named, fun w hw => hts w (List.mem_cons_of_mem _ hw)⟩ B.returns B.notSynchronized t0 v1 v2 h _ _ _ (hp_B.entry hU) hl hf
section
variable {p : Program} {l : Launch} {e : Env} {R : Room} {s : State} {m : MethodId} {args : Array Value} {below : List Frame} {meth : Method} {c : Code} {H : Heap} {locs : List Loc} {cells slots : Nat} {Q : State → Prop}
variable {cc : ByteArray} {pc nL : Nat} {ls : Array Slot} {rest : List Value} {D : va_G} {cA : Nat → ClassId} {A : Nat → Prop} {a : Nat} {h : Hp}
theorem gf_X4_40 (cx : CallFix p m c cc nL s args tbG RX4) (hB : hp_B D cA A s h H locs) (hka : h.1 a = 6) {b : Nat} (ho : h.2.2.2.1 a 5 = some b) (hdg : decode cc pc = .ok (.getfield 40, 3)) (kk : W p l e R s m args below meth c H locs cells slots Q (F0 m (pc + 3) ls (.ref b :: rest))) : W p l e R s m args below meth c H locs cells slots Q (F0 m pc ls (.ref a :: rest)) :=
  hp_getR cx hB (ci := 5) 5 rfl inX5 (by decide) rfl (by decide) rfl qw_266 hka (o := some b) ho.symm hdg kk
theorem gf_X4_43 (cx : CallFix p m c cc nL s args tbG RX4) (hB : hp_B D cA A s h H locs) (hka : h.1 a = 4) (hdg : decode cc pc = .ok (.getfield 43, 3)) (kk : W p l e R s m args below meth c H locs cells slots Q (F0 m (pc + 3) ls (.int (h.2.2.1 a 0) :: rest))) : W p l e R s m args below meth c H locs cells slots Q (F0 m pc ls (.ref a :: rest)) :=
  hp_getI cx hB (ci := 3) 0 rfl inX3 (by decide) rfl (by decide) rfl qw_337 hka hdg kk
end
abbrev yX4_goesAhead : MethodName := ⟨"SpokenMenus$Ordering", "goesAhead", "(LSpokenMenus$Place;II)Z"⟩
theorem dX4_goesAhead_0 : decode prog_6_method_8_code 0 = .ok (.aload_n 1, 1) := by decide +kernel
theorem dX4_goesAhead_1 : decode prog_6_method_8_code 1 = .ok (.getfield 40, 3) := by decide +kernel
theorem dX4_goesAhead_4 : decode prog_6_method_8_code 4 = .ok (.iload_n 2, 1) := by decide +kernel
theorem dX4_goesAhead_5 : decode prog_6_method_8_code 5 = .ok (.aaload, 1) := by decide +kernel
theorem dX4_goesAhead_6 : decode prog_6_method_8_code 6 = .ok (.getfield 43, 3) := by decide +kernel
theorem dX4_goesAhead_9 : decode prog_6_method_8_code 9 = .ok (.aload_n 0, 1) := by decide +kernel
theorem dX4_goesAhead_10 : decode prog_6_method_8_code 10 = .ok (.getfield 9, 3) := by decide +kernel
theorem dX4_goesAhead_13 : decode prog_6_method_8_code 13 = .ok (.iload_n 3, 1) := by decide +kernel
theorem dX4_goesAhead_14 : decode prog_6_method_8_code 14 = .ok (.iaload, 1) := by decide +kernel
theorem dX4_goesAhead_15 : decode prog_6_method_8_code 15 = .ok (.imul, 1) := by decide +kernel
theorem dX4_goesAhead_16 : decode prog_6_method_8_code 16 = .ok (.aload_n 1, 1) := by decide +kernel
theorem dX4_goesAhead_17 : decode prog_6_method_8_code 17 = .ok (.getfield 40, 3) := by decide +kernel
theorem dX4_goesAhead_20 : decode prog_6_method_8_code 20 = .ok (.iload_n 3, 1) := by decide +kernel
theorem dX4_goesAhead_21 : decode prog_6_method_8_code 21 = .ok (.aaload, 1) := by decide +kernel
theorem dX4_goesAhead_22 : decode prog_6_method_8_code 22 = .ok (.getfield 43, 3) := by decide +kernel
theorem dX4_goesAhead_25 : decode prog_6_method_8_code 25 = .ok (.aload_n 0, 1) := by decide +kernel
theorem dX4_goesAhead_26 : decode prog_6_method_8_code 26 = .ok (.getfield 9, 3) := by decide +kernel
theorem dX4_goesAhead_29 : decode prog_6_method_8_code 29 = .ok (.iload_n 2, 1) := by decide +kernel
theorem dX4_goesAhead_30 : decode prog_6_method_8_code 30 = .ok (.iaload, 1) := by decide +kernel
theorem dX4_goesAhead_31 : decode prog_6_method_8_code 31 = .ok (.imul, 1) := by decide +kernel
theorem dX4_goesAhead_32 : decode prog_6_method_8_code 32 = .ok (.if_icmp .ge 7, 3) := by decide +kernel
theorem dX4_goesAhead_35 : decode prog_6_method_8_code 35 = .ok (.iconst 1, 1) := by decide +kernel
theorem dX4_goesAhead_36 : decode prog_6_method_8_code 36 = .ok (.goto 4, 3) := by decide +kernel
theorem dX4_goesAhead_39 : decode prog_6_method_8_code 39 = .ok (.iconst 0, 1) := by decide +kernel
theorem dX4_goesAhead_40 : decode prog_6_method_8_code 40 = .ok (.ireturn, 1) := by decide +kernel
abbrev rmX4_goesAhead : Room := { frames := 0, cells := 0, slots := 0, locals := 0 }
def fX4_goesAhead  (t0 : Nat) (w1 : Option Nat) (v2 : Int32) (v3 : Int32) (h : Hp) : Option (Int32 × Hp) :=
  bd w1 fun a1 =>
  gk (h.1 a1) 6 <|
  bd (h.2.2.2.1 a1 5) fun a3 =>
  gk (h.1 a3) 16 <|
  gd (ix v2 (h.2.1 a3)) <|
  bd (h.2.2.2.1 a3 v2.toNatClampNeg) fun a7 =>
  gk (h.1 a7) 4 <|
  gk (h.1 t0) 5 <|
  bd (h.2.2.2.1 t0 0) fun a11 =>
  gk (h.1 a11) 13 <|
  gd (ix v3 (h.2.1 a11)) <|
  gd (ix v3 (h.2.1 a3)) <|
  bd (h.2.2.2.1 a3 v3.toNatClampNeg) fun a16 =>
  gk (h.1 a16) 4 <|
  gd (ix v2 (h.2.1 a11)) <|
  if ((h.2.2.1 a16 0) * (h.2.2.1 a11 v2.toNatClampNeg)) ≤ ((h.2.2.1 a7 0) * (h.2.2.1 a11 v3.toNatClampNeg)) then
  (some (0, h))
  else
  (some (1, h))
section
variable {p : Program} {l : Launch} {e : Env} {s : State} {m : MethodId} {args : Array Value} {below : List Frame} {meth : Method} {c : Code} {D : va_G} {cA : Nat → ClassId} {h0 h9 : Hp}
set_option maxHeartbeats 4000000 in
set_option maxRecDepth 100000 in
theorem tX4_goesAhead_0  {r : Int32} (cx : CallFix p m c prog_6_method_8_code 4 s args tbG RX4) (hr : meth.sig.returnType = (Option.some FieldType.boolean)) (hlk : meth.locks = false)  (t0 : Nat) (w1 : Option Nat) (v2 : Int32) (v3 : Int32) (h : Hp) (H : Heap) (locs : List Loc) (ls : Array Slot) (hB : hp_B D cA (hp_A h0) s h H locs) (hl : lv_has ls 4 [(0, .ref t0), (1, va_rf w1), (2, .int v2), (3, .int v3)]) (hf : fX4_goesAhead  t0 w1 v2 v3 h = some (r, h9)) : W p l e rmX4_goesAhead s m args below meth c H locs 0 0 (MQ below (hp_Qi D cA h0 h9 r) args s 0 0 (hp_A h0)) (F0 m 0 ls []) := by
  obtain ⟨hx, hb, -⟩ := id cx
  unfold fX4_goesAhead at hf
  refine lq_aload_n hx hb dX4_goesAhead_0 rfl (lv_at hl 1 rfl) ?_
  obtain ⟨a1, eo, hf⟩ := bd_ok hf
  subst eo
  obtain ⟨k2, hf⟩ := gk_ok hf
  obtain ⟨a3, q4, hf⟩ := bd_ok hf
  refine gf_X4_40 cx hB k2 q4 dX4_goesAhead_1 ?_
  refine lv_iload_n hx hb dX4_goesAhead_4 rfl (lv_at hl 2 rfl) ?_
  obtain ⟨k5, hf⟩ := gk_ok hf
  obtain ⟨j6, hf⟩ := gd_ok hf
  obtain ⟨a7, q8, hf⟩ := bd_ok hf
  refine hp_aald cx hB 16 (.object RX3) (by decide) rfl rfl k5 j6 (o := some a7) q8.symm dX4_goesAhead_5 ?_
  obtain ⟨k9, hf⟩ := gk_ok hf
  refine gf_X4_43 cx hB k9 dX4_goesAhead_6 ?_
  refine lv_aload_n hx hb dX4_goesAhead_9 rfl (lv_at hl 0 rfl) ?_
  obtain ⟨k10, hf⟩ := gk_ok hf
  obtain ⟨a11, q12, hf⟩ := bd_ok hf
  refine gf_X4_9 cx hB k10 q12 dX4_goesAhead_10 ?_
  refine lv_iload_n hx hb dX4_goesAhead_13 rfl (lv_at hl 3 rfl) ?_
  obtain ⟨k13, hf⟩ := gk_ok hf
  obtain ⟨j14, hf⟩ := gd_ok hf
  refine hp_iald cx hB k13 j14 dX4_goesAhead_14 ?_
  refine lv_imul hx hb dX4_goesAhead_15 ?_
  refine lv_aload_n hx hb dX4_goesAhead_16 rfl (lv_at hl 1 rfl) ?_
  refine gf_X4_40 cx hB k2 q4 dX4_goesAhead_17 ?_
  refine lv_iload_n hx hb dX4_goesAhead_20 rfl (lv_at hl 3 rfl) ?_
  obtain ⟨j15, hf⟩ := gd_ok hf
  obtain ⟨a16, q17, hf⟩ := bd_ok hf
  refine hp_aald cx hB 16 (.object RX3) (by decide) rfl rfl k5 j15 (o := some a16) q17.symm dX4_goesAhead_21 ?_
  obtain ⟨k18, hf⟩ := gk_ok hf
  refine gf_X4_43 cx hB k18 dX4_goesAhead_22 ?_
  refine lv_aload_n hx hb dX4_goesAhead_25 rfl (lv_at hl 0 rfl) ?_
  refine gf_X4_9 cx hB k10 q12 dX4_goesAhead_26 ?_
  refine lv_iload_n hx hb dX4_goesAhead_29 rfl (lv_at hl 2 rfl) ?_
  obtain ⟨j19, hf⟩ := gd_ok hf
  refine hp_iald cx hB k13 j19 dX4_goesAhead_30 ?_
  refine lv_imul hx hb dX4_goesAhead_31 ?_
  refine lv_icmp_ge (tgt := 39) hx hb dX4_goesAhead_32 (by decide) (fun c20 => ?_) (fun c20 => ?_)
  · replace hf := it_t c20 hf
    refine lv_iconst (v := 0) hx hb dX4_goesAhead_39 (by decide) ?_
    obtain ⟨rfl, rfl⟩ := rt_ok hf
    exact hp_zret cx hB hr hlk (Nat.le_of_ble_eq_true rfl) (Nat.le_of_ble_eq_true rfl) rfl dX4_goesAhead_40
  · replace hf := it_f c20 hf
    refine lv_iconst (v := 1) hx hb dX4_goesAhead_35 (by decide) ?_
    refine lv_goto (tgt := 40) hx hb dX4_goesAhead_36 (by decide) ?_
    obtain ⟨rfl, rfl⟩ := rt_ok hf
    exact hp_zret cx hB hr hlk (Nat.le_of_ble_eq_true rfl) (Nat.le_of_ble_eq_true rfl) rfl dX4_goesAhead_40
end
set_option maxHeartbeats 4000000 in
set_option maxRecDepth 100000 in
theorem cX4_goesAhead (l : Launch) (D : va_G) (cA : Nat → ClassId) (t0 : Nat) (w1 : Option Nat) (v2 : Int32) (v3 : Int32) (h : Hp) (r : Int32) (h9 : Hp) (hf : fX4_goesAhead t0 w1 v2 v3 h = some (r, h9)) : hp_M l yX4_goesAhead prog_6_method_8_code 4 (Option.some FieldType.boolean) rmX4_goesAhead D cA h [.ref t0, va_rf w1, .int v2, .int v3] (hp_Qi D cA h h9 r) := by
  refine Met.ofW (cc := prog_6_method_8_code) (maxL := 4) (ret := (Option.some FieldType.boolean)) (by decide) rfl ?_
  intro p e s m args below meth c s₁ B hml hv
  obtain ⟨rfl, hU⟩ := hv
  have hts := atoms_spec (ws := Cond.code yX4_goesAhead prog_6_method_8_code 4 (Option.some FieldType.boolean) :: tbG) B.pre
  have hl := lv_entry ([.ref t0, va_rf w1, .int v2, .int v3]) (n := 4) (by simp [lg_sl, va_rf_cat, cat_i, cat_r, cat_n])
  rw [show lv_args 0 ([.ref t0, va_rf w1, .int v2, .int v3]) = [(0, .ref t0), (1, va_rf w1), (2, .int v2), (3, .int v3)] by simp [lv_args, va_rf_cat, cat_i, cat_r, cat_n]] at hl
  rw [lg_entry_eq]
  generalize (lg_sl ([.ref t0, va_rf w1, .int v2, .int v3]) ++ List.replicate (4 - (lg_sl ([.ref t0, va_rf w1, .int v2, .int v3])).length) Slot.unset).toArray = ls at hl ⊢
  exact tX4_goesAhead_0 ⟨B.exec, B.bytes, hml, findClass_of_methodNamed B.named, fun w hw => hts w (List.mem_cons_of_mem _ hw)⟩ B.returns B.notSynchronized t0 w1 v2 v3 h _ _ _ (hp_B.entry hU) hl hf
section
variable {p : Program} {l : Launch} {e : Env} {R : Room} {s : State} {m : MethodId} {args : Array Value} {below : List Frame} {meth : Method} {c : Code} {H : Heap} {locs : List Loc} {cells slots : Nat} {Q : State → Prop}
variable {cc : ByteArray} {pc nL : Nat} {ls : Array Slot} {rest : List Value} {D : va_G} {cA : Nat → ClassId} {A : Nat → Prop} {a : Nat} {h : Hp}
theorem gf_X4_30 (cx : CallFix p m c cc nL s args tbG RX4) (hB : hp_B D cA A s h H locs) (hka : h.1 a = 6) (hdg : decode cc pc = .ok (.getfield 30, 3)) (kk : W p l e R s m args below meth c H locs cells slots Q (F0 m (pc + 3) ls (.int (h.2.2.1 a 6) :: rest))) : W p l e R s m args below meth c H locs cells slots Q (F0 m pc ls (.ref a :: rest)) :=
  hp_getI cx hB (ci := 5) 6 rfl inX5 (by decide) rfl (by decide) rfl qw_272 hka hdg kk
theorem gf_X4_15 (cx : CallFix p m c cc nL s args tbG RX4) (hB : hp_B D cA A s h H locs) (hka : h.1 a = 5) {b : Nat} (ho : h.2.2.2.1 a 1 = some b) (hdg : decode cc pc = .ok (.getfield 15, 3)) (kk : W p l e R s m args below meth c H locs cells slots Q (F0 m (pc + 3) ls (.ref b :: rest))) : W p l e R s m args below meth c H locs cells slots Q (F0 m pc ls (.ref a :: rest)) :=
  hp_getR cx hB (ci := 4) 1 rfl inX4 (by decide) rfl (by decide) rfl qw_99 hka (o := some b) ho.symm hdg kk
theorem cl_X4_36 {As st0 : List Value} {b : Nat} {Qc : Array Value → State → Outcome → State → Prop} (cx : CallFix p m c cc nL s args tbG RX4) (hB : hp_B D cA A s h H locs) (hM : hp_M l yX4_goesAhead prog_6_method_8_code 4 (Option.some FieldType.boolean) rmX4_goesAhead D cA h (.ref b :: As) Qc) (hkb : h.1 b = 5) (hR : rmX4_goesAhead.frames + 1 ≤ R.frames ∧ 8 + (4 + 11) + rmX4_goesAhead.locals ≤ R.locals) (hn : As.length = 3) (hls : ls.size = nL) (hst : st0 = As.reverse ++ .ref b :: rest) (hW : (rest.map fun v => v.category).sum ≤ 8) (hf : cells + rmX4_goesAhead.cells ≤ R.cells ∧ slots + rmX4_goesAhead.slots ≤ R.slots) (hdg : decode cc pc = .ok (.invokevirtual 36, 3)) :
    va_Run p l e R s m args below meth c H locs cells slots rmX4_goesAhead.cells rmX4_goesAhead.slots (F0 m pc ls st0) rest (Qc (Value.ref b :: As).toArray) (hp_A h) :=
  hp_runV cx hB hM (ci := 4) rfl (by decide) hkb qw_666 qw_663 qw_665 qp_12 qw_6 (by decide +kernel) hR hn hls hst hW hf hdg
end
abbrev yX4_sort : MethodName := ⟨"SpokenMenus$Ordering", "sort", "(LSpokenMenus$Place;)V"⟩
theorem dX4_sort_0 : decode prog_6_method_4_code 0 = .ok (.iconst 0, 1) := by decide +kernel
theorem dX4_sort_1 : decode prog_6_method_4_code 1 = .ok (.istore_n 2, 1) := by decide +kernel
theorem dX4_sort_2 : decode prog_6_method_4_code 2 = .ok (.iload_n 2, 1) := by decide +kernel
theorem dX4_sort_3 : decode prog_6_method_4_code 3 = .ok (.aload_n 1, 1) := by decide +kernel
theorem dX4_sort_4 : decode prog_6_method_4_code 4 = .ok (.getfield 30, 3) := by decide +kernel
theorem dX4_sort_7 : decode prog_6_method_4_code 7 = .ok (.if_icmp .ge 59, 3) := by decide +kernel
theorem dX4_sort_10 : decode prog_6_method_4_code 10 = .ok (.iload_n 2, 1) := by decide +kernel
theorem dX4_sort_11 : decode prog_6_method_4_code 11 = .ok (.istore_n 3, 1) := by decide +kernel
theorem dX4_sort_12 : decode prog_6_method_4_code 12 = .ok (.iload_n 3, 1) := by decide +kernel
theorem dX4_sort_13 : decode prog_6_method_4_code 13 = .ok (.ifCond .le 40, 3) := by decide +kernel
theorem dX4_sort_16 : decode prog_6_method_4_code 16 = .ok (.aload_n 0, 1) := by decide +kernel
theorem dX4_sort_17 : decode prog_6_method_4_code 17 = .ok (.aload_n 1, 1) := by decide +kernel
theorem dX4_sort_18 : decode prog_6_method_4_code 18 = .ok (.iload_n 2, 1) := by decide +kernel
theorem dX4_sort_19 : decode prog_6_method_4_code 19 = .ok (.aload_n 0, 1) := by decide +kernel
theorem dX4_sort_20 : decode prog_6_method_4_code 20 = .ok (.getfield 15, 3) := by decide +kernel
theorem dX4_sort_23 : decode prog_6_method_4_code 23 = .ok (.iload_n 3, 1) := by decide +kernel
theorem dX4_sort_24 : decode prog_6_method_4_code 24 = .ok (.iconst 1, 1) := by decide +kernel
theorem dX4_sort_25 : decode prog_6_method_4_code 25 = .ok (.isub, 1) := by decide +kernel
theorem dX4_sort_26 : decode prog_6_method_4_code 26 = .ok (.iaload, 1) := by decide +kernel
theorem dX4_sort_27 : decode prog_6_method_4_code 27 = .ok (.invokevirtual 36, 3) := by decide +kernel
theorem dX4_sort_30 : decode prog_6_method_4_code 30 = .ok (.ifCond .eq 23, 3) := by decide +kernel
theorem dX4_sort_33 : decode prog_6_method_4_code 33 = .ok (.aload_n 0, 1) := by decide +kernel
theorem dX4_sort_34 : decode prog_6_method_4_code 34 = .ok (.getfield 15, 3) := by decide +kernel
theorem dX4_sort_37 : decode prog_6_method_4_code 37 = .ok (.iload_n 3, 1) := by decide +kernel
theorem dX4_sort_38 : decode prog_6_method_4_code 38 = .ok (.aload_n 0, 1) := by decide +kernel
theorem dX4_sort_39 : decode prog_6_method_4_code 39 = .ok (.getfield 15, 3) := by decide +kernel
theorem dX4_sort_42 : decode prog_6_method_4_code 42 = .ok (.iload_n 3, 1) := by decide +kernel
theorem dX4_sort_43 : decode prog_6_method_4_code 43 = .ok (.iconst 1, 1) := by decide +kernel
theorem dX4_sort_44 : decode prog_6_method_4_code 44 = .ok (.isub, 1) := by decide +kernel
theorem dX4_sort_45 : decode prog_6_method_4_code 45 = .ok (.iaload, 1) := by decide +kernel
theorem dX4_sort_46 : decode prog_6_method_4_code 46 = .ok (.iastore, 1) := by decide +kernel
theorem dX4_sort_47 : decode prog_6_method_4_code 47 = .ok (.iinc 3 (-1), 3) := by decide +kernel
theorem dX4_sort_50 : decode prog_6_method_4_code 50 = .ok (.goto (-38), 3) := by decide +kernel
theorem dX4_sort_53 : decode prog_6_method_4_code 53 = .ok (.aload_n 0, 1) := by decide +kernel
theorem dX4_sort_54 : decode prog_6_method_4_code 54 = .ok (.getfield 15, 3) := by decide +kernel
theorem dX4_sort_57 : decode prog_6_method_4_code 57 = .ok (.iload_n 3, 1) := by decide +kernel
theorem dX4_sort_58 : decode prog_6_method_4_code 58 = .ok (.iload_n 2, 1) := by decide +kernel
theorem dX4_sort_59 : decode prog_6_method_4_code 59 = .ok (.iastore, 1) := by decide +kernel
theorem dX4_sort_60 : decode prog_6_method_4_code 60 = .ok (.iinc 2 1, 3) := by decide +kernel
theorem dX4_sort_63 : decode prog_6_method_4_code 63 = .ok (.goto (-61), 3) := by decide +kernel
theorem dX4_sort_66 : decode prog_6_method_4_code 66 = .ok (.return_, 1) := by decide +kernel
abbrev rmX4_sort : Room := { frames := 1, cells := 0, slots := 0, locals := 23 }
def bX4_sort_12 (rc2 : Nat → Option Nat → Int32 → Hp → Option (Unit × Hp)) (rc : Nat → Nat → Int32 → Int32 → Hp → Option (Unit × Hp)) (t0 : Nat) (t1 : Nat) (v2 : Int32) (v3 : Int32) (h : Hp) : Option (Unit × Hp) :=
  if v3 ≤ 0 then
  (gk (h.1 t0) 5 <|
  bd (h.2.2.2.1 t0 1) fun a3 =>
  gk (h.1 a3) 13 <|
  gd (ix v3 (h.2.1 a3)) <|
  nm (hp_si h a3 v3.toNatClampNeg v2) fun g7 =>
  nm (v2 + 1) fun x8 =>
  rc2 t0 (some t1) x8 g7)
  else
  (gk (h.1 t0) 5 <|
  bd (h.2.2.2.1 t0 1) fun a10 =>
  gk (h.1 a10) 13 <|
  gd (ix (v3 - 1) (h.2.1 a10)) <|
  b2 (fX4_goesAhead t0 (some t1) v2 (h.2.2.1 a10 (v3 - 1).toNatClampNeg) h) fun r16 g14 =>
  if r16 = 0 then
  (gk (g14.1 t0) 5 <|
  bd (g14.2.2.2.1 t0 1) fun a20 =>
  gk (g14.1 a20) 13 <|
  gd (ix v3 (g14.2.1 a20)) <|
  nm (hp_si g14 a20 v3.toNatClampNeg v2) fun g24 =>
  nm (v2 + 1) fun x25 =>
  rc2 t0 (some t1) x25 g24)
  else
  (gk (g14.1 t0) 5 <|
  bd (g14.2.2.2.1 t0 1) fun a27 =>
  gk (g14.1 a27) 13 <|
  gd (ix (v3 - 1) (g14.2.1 a27)) <|
  gd (ix v3 (g14.2.1 a27)) <|
  nm (hp_si g14 a27 v3.toNatClampNeg (g14.2.2.1 a27 (v3 - 1).toNatClampNeg)) fun g32 =>
  nm (v3 + (-1)) fun x33 =>
  rc t0 t1 v2 x33 g32))
def fX4_sort_12 (rc2 : Nat → Option Nat → Int32 → Hp → Option (Unit × Hp)) : Nat → Nat → Int32 → Int32 → Hp → Option (Unit × Hp) := fx (bX4_sort_12 rc2) (fun _ _ _ _ _ => none) NF
def bX4_sort_2  (rc : Nat → Option Nat → Int32 → Hp → Option (Unit × Hp)) (t0 : Nat) (w1 : Option Nat) (v2 : Int32) (h : Hp) : Option (Unit × Hp) :=
  bd w1 fun a1 =>
  gk (h.1 a1) 6 <|
  if (h.2.2.1 a1 6) ≤ v2 then
  (some ((), h))
  else
  (fX4_sort_12 rc t0 a1 v2 v2 h)
def fX4_sort_2  : Nat → Option Nat → Int32 → Hp → Option (Unit × Hp) := fx (bX4_sort_2 ) (fun _ _ _ _ => none) NF
def fX4_sort  (t0 : Nat) (w1 : Option Nat) (h : Hp) : Option (Unit × Hp) :=
  fX4_sort_2  t0 w1 0 h
section
variable {p : Program} {l : Launch} {e : Env} {s : State} {m : MethodId} {args : Array Value} {below : List Frame} {meth : Method} {c : Code} {D : va_G} {cA : Nat → ClassId} {h0 h9 : Hp}
set_option maxHeartbeats 4000000 in
set_option maxRecDepth 100000 in
theorem tX4_sort_12 {rc2 : Nat → Option Nat → Int32 → Hp → Option (Unit × Hp)} (cx : CallFix p m c prog_6_method_4_code 4 s args tbG RX4) (hr : meth.sig.returnType = none) (hlk : meth.locks = false) (hr2 : ∀ (t0 : Nat) (w1 : Option Nat) (v2 : Int32) (h : Hp) (H : Heap) (locs : List Loc) (ls : Array Slot), hp_B D cA (hp_A h0) s h H locs → lv_has ls 4 [(0, .ref t0), (1, va_rf w1), (2, .int v2)] → rc2 t0 w1 v2 h = some ((), h9) → W p l e rmX4_sort s m args below meth c H locs 0 0 (MQ below (hp_Qv D cA h0 h9) args s 0 0 (hp_A h0)) (F0 m 2 ls [])) (n : Nat) : ∀ (t0 : Nat) (t1 : Nat) (v2 : Int32) (v3 : Int32) (h : Hp) (H : Heap) (locs : List Loc) (ls : Array Slot), hp_B D cA (hp_A h0) s h H locs → lv_has ls 4 [(0, .ref t0), (1, .ref t1), (2, .int v2), (3, .int v3)] → fx (bX4_sort_12 rc2) (fun _ _ _ _ _ => none) n t0 t1 v2 v3 h = some ((), h9) → W p l e rmX4_sort s m args below meth c H locs 0 0 (MQ below (hp_Qv D cA h0 h9) args s 0 0 (hp_A h0)) (F0 m 12 ls []) := by
  obtain ⟨hx, hb, -⟩ := id cx
  induction n with
  | zero => intro t0 t1 v2 v3 h H locs ls hB hl hf; cases hf
  | succ n ih =>
    intro t0 t1 v2 v3 h H locs ls hB hl hf
    replace hf : bX4_sort_12 rc2 (fx (bX4_sort_12 rc2) (fun _ _ _ _ _ => none) n) t0 t1 v2 v3 h = some ((), h9) := hf
    unfold bX4_sort_12 at hf
    refine lv_iload_n hx hb dX4_sort_12 rfl (lv_at hl 3 rfl) ?_
    refine lv_if_le (tgt := 53) hx hb dX4_sort_13 (by decide) (fun c1 => ?_) (fun c1 => ?_)
    · replace hf := it_t c1 hf
      refine lv_aload_n hx hb dX4_sort_53 rfl (lv_at hl 0 rfl) ?_
      obtain ⟨k2, hf⟩ := gk_ok hf
      obtain ⟨a3, q4, hf⟩ := bd_ok hf
      refine gf_X4_15 cx hB k2 q4 dX4_sort_54 ?_
      refine lv_iload_n hx hb dX4_sort_57 rfl (lv_at hl 3 rfl) ?_
      refine lv_iload_n hx hb dX4_sort_58 rfl (lv_at hl 2 rfl) ?_
      obtain ⟨k5, hf⟩ := gk_ok hf
      obtain ⟨j6, hf⟩ := gd_ok hf
      obtain ⟨g7, eg7, hf⟩ := nm_ok hf
      refine hp_iast cx hB k5 j6 dX4_sort_59 (fun H locs hB => ?_)
      rw [← eg7] at hB
      obtain ⟨x8, ex8, hf⟩ := nm_ok hf
      refine lv_iinc (v := x8) (lv' := [(2, .int x8), (0, .ref t0), (1, .ref t1), (3, .int v3)]) hx hb dX4_sort_60 hl (k := 2) rfl (by rw [ex8]; rfl) (by decide) rfl (fun ls hl => ?_)
      refine lv_goto (tgt := 2) hx hb dX4_sort_63 (by decide) ?_
      exact hr2 t0 (some t1) x8 g7 _ _ _ hB (lv_sub hl [1, 2, 0] rfl) hf
    · replace hf := it_f c1 hf
      refine lv_aload_n hx hb dX4_sort_16 rfl (lv_at hl 0 rfl) ?_
      refine lv_aload_n hx hb dX4_sort_17 rfl (lv_at hl 1 rfl) ?_
      refine lv_iload_n hx hb dX4_sort_18 rfl (lv_at hl 2 rfl) ?_
      refine lv_aload_n hx hb dX4_sort_19 rfl (lv_at hl 0 rfl) ?_
      obtain ⟨k9, hf⟩ := gk_ok hf
      obtain ⟨a10, q11, hf⟩ := bd_ok hf
      refine gf_X4_15 cx hB k9 q11 dX4_sort_20 ?_
      refine lv_iload_n hx hb dX4_sort_23 rfl (lv_at hl 3 rfl) ?_
      refine lv_iconst (v := 1) hx hb dX4_sort_24 (by decide) ?_
      refine lv_isub hx hb dX4_sort_25 ?_
      obtain ⟨k12, hf⟩ := gk_ok hf
      obtain ⟨j13, hf⟩ := gd_ok hf
      refine hp_iald cx hB k12 j13 dX4_sort_26 ?_
      obtain ⟨r16, g14, m15, hf⟩ := b2_ok hf
      refine hp_cI0 (cl_X4_36 cx hB (cX4_goesAhead l D cA t0 (some t1) v2 (h.2.2.1 a10 (v3 - 1).toNatClampNeg) h _ g14 m15) k9 ⟨Nat.le_of_ble_eq_true rfl, Nat.le_of_ble_eq_true rfl⟩ rfl hl.1 rfl (Nat.le_of_ble_eq_true rfl) ⟨Nat.le_of_ble_eq_true rfl, Nat.le_of_ble_eq_true rfl⟩ dX4_sort_27) rfl rfl hB (fun H locs hB => ?_)
      refine lv_if_eq (tgt := 53) hx hb dX4_sort_30 (by decide) (fun c18 => ?_) (fun c18 => ?_)
      · replace hf := it_t c18 hf
        refine lv_aload_n hx hb dX4_sort_53 rfl (lv_at hl 0 rfl) ?_
        obtain ⟨k19, hf⟩ := gk_ok hf
        obtain ⟨a20, q21, hf⟩ := bd_ok hf
        refine gf_X4_15 cx hB k19 q21 dX4_sort_54 ?_
        refine lv_iload_n hx hb dX4_sort_57 rfl (lv_at hl 3 rfl) ?_
        refine lv_iload_n hx hb dX4_sort_58 rfl (lv_at hl 2 rfl) ?_
        obtain ⟨k22, hf⟩ := gk_ok hf
        obtain ⟨j23, hf⟩ := gd_ok hf
        obtain ⟨g24, eg24, hf⟩ := nm_ok hf
        refine hp_iast cx hB k22 j23 dX4_sort_59 (fun H locs hB => ?_)
        rw [← eg24] at hB
        obtain ⟨x25, ex25, hf⟩ := nm_ok hf
        refine lv_iinc (v := x25) (lv' := [(2, .int x25), (0, .ref t0), (1, .ref t1), (3, .int v3)]) hx hb dX4_sort_60 hl (k := 2) rfl (by rw [ex25]; rfl) (by decide) rfl (fun ls hl => ?_)
        refine lv_goto (tgt := 2) hx hb dX4_sort_63 (by decide) ?_
        exact hr2 t0 (some t1) x25 g24 _ _ _ hB (lv_sub hl [1, 2, 0] rfl) hf
      · replace hf := it_f c18 hf
        refine lv_aload_n hx hb dX4_sort_33 rfl (lv_at hl 0 rfl) ?_
        obtain ⟨k26, hf⟩ := gk_ok hf
        obtain ⟨a27, q28, hf⟩ := bd_ok hf
        refine gf_X4_15 cx hB k26 q28 dX4_sort_34 ?_
        refine lv_iload_n hx hb dX4_sort_37 rfl (lv_at hl 3 rfl) ?_
        refine lv_aload_n hx hb dX4_sort_38 rfl (lv_at hl 0 rfl) ?_
        refine gf_X4_15 cx hB k26 q28 dX4_sort_39 ?_
        refine lv_iload_n hx hb dX4_sort_42 rfl (lv_at hl 3 rfl) ?_
        refine lv_iconst (v := 1) hx hb dX4_sort_43 (by decide) ?_
        refine lv_isub hx hb dX4_sort_44 ?_
        obtain ⟨k29, hf⟩ := gk_ok hf
        obtain ⟨j30, hf⟩ := gd_ok hf
        refine hp_iald cx hB k29 j30 dX4_sort_45 ?_
        obtain ⟨j31, hf⟩ := gd_ok hf
        obtain ⟨g32, eg32, hf⟩ := nm_ok hf
        refine hp_iast cx hB k29 j31 dX4_sort_46 (fun H locs hB => ?_)
        rw [← eg32] at hB
        obtain ⟨x33, ex33, hf⟩ := nm_ok hf
        refine lv_iinc (v := x33) (lv' := [(3, .int x33), (0, .ref t0), (1, .ref t1), (2, .int v2)]) hx hb dX4_sort_47 hl (k := 3) rfl (by rw [ex33]; rfl) (by decide) rfl (fun ls hl => ?_)
        refine lv_goto (tgt := 12) hx hb dX4_sort_50 (by decide) ?_
        exact ih t0 t1 v2 x33 g32 _ _ _ hB (lv_sub hl [1, 2, 3, 0] rfl) hf
set_option maxHeartbeats 4000000 in
set_option maxRecDepth 100000 in
theorem tX4_sort_2  (cx : CallFix p m c prog_6_method_4_code 4 s args tbG RX4) (hr : meth.sig.returnType = none) (hlk : meth.locks = false)  (n : Nat) : ∀ (t0 : Nat) (w1 : Option Nat) (v2 : Int32) (h : Hp) (H : Heap) (locs : List Loc) (ls : Array Slot), hp_B D cA (hp_A h0) s h H locs → lv_has ls 4 [(0, .ref t0), (1, va_rf w1), (2, .int v2)] → fx (bX4_sort_2 ) (fun _ _ _ _ => none) n t0 w1 v2 h = some ((), h9) → W p l e rmX4_sort s m args below meth c H locs 0 0 (MQ below (hp_Qv D cA h0 h9) args s 0 0 (hp_A h0)) (F0 m 2 ls []) := by
  obtain ⟨hx, hb, -⟩ := id cx
  induction n with
  | zero => intro t0 w1 v2 h H locs ls hB hl hf; cases hf
  | succ n ih =>
    intro t0 w1 v2 h H locs ls hB hl hf
    replace hf : bX4_sort_2  (fx (bX4_sort_2 ) (fun _ _ _ _ => none) n) t0 w1 v2 h = some ((), h9) := hf
    unfold bX4_sort_2 at hf
    refine lv_iload_n hx hb dX4_sort_2 rfl (lv_at hl 2 rfl) ?_
    refine lq_aload_n hx hb dX4_sort_3 rfl (lv_at hl 1 rfl) ?_
    obtain ⟨a1, eo, hf⟩ := bd_ok hf
    subst eo
    obtain ⟨k2, hf⟩ := gk_ok hf
    refine gf_X4_30 cx hB k2 dX4_sort_4 ?_
    refine lv_icmp_ge (tgt := 66) hx hb dX4_sort_7 (by decide) (fun c3 => ?_) (fun c3 => ?_)
    · replace hf := it_t c3 hf
      obtain ⟨-, rfl⟩ := rt_ok hf
      exact hp_vret cx hB hr hlk (Nat.le_of_ble_eq_true rfl) (Nat.le_of_ble_eq_true rfl) dX4_sort_66
    · replace hf := it_f c3 hf
      refine lv_iload_n hx hb dX4_sort_10 rfl (lv_at hl 2 rfl) ?_
      refine lv_istore_n (lv' := [(3, .int v2), (0, .ref t0), (1, .ref a1), (2, .int v2)]) hx hb dX4_sort_11 rfl hl (by decide) rfl (fun ls hl => ?_)
      exact tX4_sort_12 cx hr hlk ih NF t0 a1 v2 v2 h _ _ _ hB (lv_sub hl [1, 2, 3, 0] rfl) hf
set_option maxHeartbeats 4000000 in
set_option maxRecDepth 100000 in
theorem tX4_sort_0  (cx : CallFix p m c prog_6_method_4_code 4 s args tbG RX4) (hr : meth.sig.returnType = none) (hlk : meth.locks = false)  (t0 : Nat) (w1 : Option Nat) (h : Hp) (H : Heap) (locs : List Loc) (ls : Array Slot) (hB : hp_B D cA (hp_A h0) s h H locs) (hl : lv_has ls 4 [(0, .ref t0), (1, va_rf w1)]) (hf : fX4_sort  t0 w1 h = some ((), h9)) : W p l e rmX4_sort s m args below meth c H locs 0 0 (MQ below (hp_Qv D cA h0 h9) args s 0 0 (hp_A h0)) (F0 m 0 ls []) := by
  obtain ⟨hx, hb, -⟩ := id cx
  unfold fX4_sort at hf
  refine lv_iconst (v := 0) hx hb dX4_sort_0 (by decide) ?_
  refine lv_istore_n (lv' := [(2, .int 0), (0, .ref t0), (1, va_rf w1)]) hx hb dX4_sort_1 rfl hl (by decide) (by simp [List.filter, va_rf_cat, cat_i, cat_r, cat_n]) (fun ls hl => ?_)
  exact tX4_sort_2 cx hr hlk  NF t0 w1 0 h _ _ _ hB (lv_sub hl [1, 2, 0] rfl) hf
end
set_option maxHeartbeats 4000000 in
set_option maxRecDepth 100000 in
theorem cX4_sort (l : Launch) (D : va_G) (cA : Nat → ClassId) (t0 : Nat) (w1 : Option Nat) (h : Hp) (_u : Unit) (h9 : Hp) (hf : fX4_sort t0 w1 h = some (_u, h9)) : hp_M l yX4_sort prog_6_method_4_code 4 none rmX4_sort D cA h [.ref t0, va_rf w1] (hp_Qv D cA h h9) := by
  refine Met.ofW (cc := prog_6_method_4_code) (maxL := 4) (ret := none) (by decide) rfl ?_
  intro p e s m args below meth c s₁ B hml hv
  obtain ⟨rfl, hU⟩ := hv
  have hts := atoms_spec (ws := Cond.code yX4_sort prog_6_method_4_code 4 none :: tbG) B.pre
  have hl := lv_entry ([.ref t0, va_rf w1]) (n := 4) (by simp [lg_sl, va_rf_cat, cat_i, cat_r, cat_n])
  rw [show lv_args 0 ([.ref t0, va_rf w1]) = [(0, .ref t0), (1, va_rf w1)] by simp [lv_args, va_rf_cat, cat_i, cat_r, cat_n]] at hl
  rw [lg_entry_eq]
  generalize (lg_sl ([.ref t0, va_rf w1]) ++ List.replicate (4 - (lg_sl ([.ref t0, va_rf w1])).length) Slot.unset).toArray = ls at hl ⊢
  exact tX4_sort_0 ⟨B.exec, B.bytes, hml, findClass_of_methodNamed B.named, fun w hw => hts w (List.mem_cons_of_mem _ hw)⟩ B.returns B.notSynchronized t0 w1 h _ _ _ (hp_B.entry hU) hl hf
abbrev yX4_costAsTheyStand : MethodName := ⟨"SpokenMenus$Ordering", "costAsTheyStand", "(LSpokenMenus$Place;)I"⟩
theorem dX4_costAsTheyStand_0 : decode prog_6_method_5_code 0 = .ok (.iconst 0, 1) := by decide +kernel
theorem dX4_costAsTheyStand_1 : decode prog_6_method_5_code 1 = .ok (.istore_n 2, 1) := by decide +kernel
theorem dX4_costAsTheyStand_2 : decode prog_6_method_5_code 2 = .ok (.iconst 0, 1) := by decide +kernel
theorem dX4_costAsTheyStand_3 : decode prog_6_method_5_code 3 = .ok (.istore_n 3, 1) := by decide +kernel
theorem dX4_costAsTheyStand_4 : decode prog_6_method_5_code 4 = .ok (.iconst 0, 1) := by decide +kernel
theorem dX4_costAsTheyStand_5 : decode prog_6_method_5_code 5 = .ok (.istore 4, 2) := by decide +kernel
theorem dX4_costAsTheyStand_7 : decode prog_6_method_5_code 7 = .ok (.iload 4, 2) := by decide +kernel
theorem dX4_costAsTheyStand_9 : decode prog_6_method_5_code 9 = .ok (.aload_n 1, 1) := by decide +kernel
theorem dX4_costAsTheyStand_10 : decode prog_6_method_5_code 10 = .ok (.getfield 30, 3) := by decide +kernel
theorem dX4_costAsTheyStand_13 : decode prog_6_method_5_code 13 = .ok (.if_icmp .ge 34, 3) := by decide +kernel
theorem dX4_costAsTheyStand_16 : decode prog_6_method_5_code 16 = .ok (.iload_n 2, 1) := by decide +kernel
theorem dX4_costAsTheyStand_17 : decode prog_6_method_5_code 17 = .ok (.aload_n 1, 1) := by decide +kernel
theorem dX4_costAsTheyStand_18 : decode prog_6_method_5_code 18 = .ok (.getfield 40, 3) := by decide +kernel
theorem dX4_costAsTheyStand_21 : decode prog_6_method_5_code 21 = .ok (.iload 4, 2) := by decide +kernel
theorem dX4_costAsTheyStand_23 : decode prog_6_method_5_code 23 = .ok (.aaload, 1) := by decide +kernel
theorem dX4_costAsTheyStand_24 : decode prog_6_method_5_code 24 = .ok (.getfield 43, 3) := by decide +kernel
theorem dX4_costAsTheyStand_27 : decode prog_6_method_5_code 27 = .ok (.iadd, 1) := by decide +kernel
theorem dX4_costAsTheyStand_28 : decode prog_6_method_5_code 28 = .ok (.istore_n 2, 1) := by decide +kernel
theorem dX4_costAsTheyStand_29 : decode prog_6_method_5_code 29 = .ok (.iload_n 3, 1) := by decide +kernel
theorem dX4_costAsTheyStand_30 : decode prog_6_method_5_code 30 = .ok (.aload_n 0, 1) := by decide +kernel
theorem dX4_costAsTheyStand_31 : decode prog_6_method_5_code 31 = .ok (.getfield 9, 3) := by decide +kernel
theorem dX4_costAsTheyStand_34 : decode prog_6_method_5_code 34 = .ok (.iload 4, 2) := by decide +kernel
theorem dX4_costAsTheyStand_36 : decode prog_6_method_5_code 36 = .ok (.iaload, 1) := by decide +kernel
theorem dX4_costAsTheyStand_37 : decode prog_6_method_5_code 37 = .ok (.iload_n 2, 1) := by decide +kernel
theorem dX4_costAsTheyStand_38 : decode prog_6_method_5_code 38 = .ok (.imul, 1) := by decide +kernel
theorem dX4_costAsTheyStand_39 : decode prog_6_method_5_code 39 = .ok (.iadd, 1) := by decide +kernel
theorem dX4_costAsTheyStand_40 : decode prog_6_method_5_code 40 = .ok (.istore_n 3, 1) := by decide +kernel
theorem dX4_costAsTheyStand_41 : decode prog_6_method_5_code 41 = .ok (.iinc 4 1, 3) := by decide +kernel
theorem dX4_costAsTheyStand_44 : decode prog_6_method_5_code 44 = .ok (.goto (-37), 3) := by decide +kernel
theorem dX4_costAsTheyStand_47 : decode prog_6_method_5_code 47 = .ok (.iload_n 3, 1) := by decide +kernel
theorem dX4_costAsTheyStand_48 : decode prog_6_method_5_code 48 = .ok (.ireturn, 1) := by decide +kernel
abbrev rmX4_costAsTheyStand : Room := { frames := 0, cells := 0, slots := 0, locals := 0 }
def bX4_costAsTheyStand_7  (rc : Nat → Option Nat → Int32 → Int32 → Int32 → Hp → Option (Int32 × Hp)) (t0 : Nat) (w1 : Option Nat) (v2 : Int32) (v3 : Int32) (v4 : Int32) (h : Hp) : Option (Int32 × Hp) :=
  bd w1 fun a1 =>
  gk (h.1 a1) 6 <|
  if (h.2.2.1 a1 6) ≤ v4 then
  (some (v3, h))
  else
  (bd (h.2.2.2.1 a1 5) fun a4 =>
  gk (h.1 a4) 16 <|
  gd (ix v4 (h.2.1 a4)) <|
  bd (h.2.2.2.1 a4 v4.toNatClampNeg) fun a8 =>
  gk (h.1 a8) 4 <|
  nm (v2 + (h.2.2.1 a8 0)) fun x11 =>
  gk (h.1 t0) 5 <|
  bd (h.2.2.2.1 t0 0) fun a13 =>
  gk (h.1 a13) 13 <|
  gd (ix v4 (h.2.1 a13)) <|
  nm (v3 + ((h.2.2.1 a13 v4.toNatClampNeg) * x11)) fun x17 =>
  nm (v4 + 1) fun x18 =>
  rc t0 (some a1) x11 x17 x18 h)
def fX4_costAsTheyStand_7  : Nat → Option Nat → Int32 → Int32 → Int32 → Hp → Option (Int32 × Hp) := fx (bX4_costAsTheyStand_7 ) (fun _ _ _ _ _ _ => none) NF
def fX4_costAsTheyStand  (t0 : Nat) (w1 : Option Nat) (h : Hp) : Option (Int32 × Hp) :=
  fX4_costAsTheyStand_7  t0 w1 0 0 0 h
section
variable {p : Program} {l : Launch} {e : Env} {s : State} {m : MethodId} {args : Array Value} {below : List Frame} {meth : Method} {c : Code} {D : va_G} {cA : Nat → ClassId} {h0 h9 : Hp}
set_option maxHeartbeats 4000000 in
set_option maxRecDepth 100000 in
theorem tX4_costAsTheyStand_7  {r : Int32} (cx : CallFix p m c prog_6_method_5_code 5 s args tbG RX4) (hr : meth.sig.returnType = (Option.some FieldType.int)) (hlk : meth.locks = false)  (n : Nat) : ∀ (t0 : Nat) (w1 : Option Nat) (v2 : Int32) (v3 : Int32) (v4 : Int32) (h : Hp) (H : Heap) (locs : List Loc) (ls : Array Slot), hp_B D cA (hp_A h0) s h H locs → lv_has ls 5 [(0, .ref t0), (1, va_rf w1), (2, .int v2), (3, .int v3), (4, .int v4)] → fx (bX4_costAsTheyStand_7 ) (fun _ _ _ _ _ _ => none) n t0 w1 v2 v3 v4 h = some (r, h9) → W p l e rmX4_costAsTheyStand s m args below meth c H locs 0 0 (MQ below (hp_Qi D cA h0 h9 r) args s 0 0 (hp_A h0)) (F0 m 7 ls []) := by
  obtain ⟨hx, hb, -⟩ := id cx
  induction n with
  | zero => intro t0 w1 v2 v3 v4 h H locs ls hB hl hf; cases hf
  | succ n ih =>
    intro t0 w1 v2 v3 v4 h H locs ls hB hl hf
    replace hf : bX4_costAsTheyStand_7  (fx (bX4_costAsTheyStand_7 ) (fun _ _ _ _ _ _ => none) n) t0 w1 v2 v3 v4 h = some (r, h9) := hf
    unfold bX4_costAsTheyStand_7 at hf
    refine lv_iload hx hb dX4_costAsTheyStand_7 (lv_at hl 4 rfl) ?_
    refine lq_aload_n hx hb dX4_costAsTheyStand_9 rfl (lv_at hl 1 rfl) ?_
    obtain ⟨a1, eo, hf⟩ := bd_ok hf
    subst eo
    obtain ⟨k2, hf⟩ := gk_ok hf
    refine gf_X4_30 cx hB k2 dX4_costAsTheyStand_10 ?_
    refine lv_icmp_ge (tgt := 47) hx hb dX4_costAsTheyStand_13 (by decide) (fun c3 => ?_) (fun c3 => ?_)
    · replace hf := it_t c3 hf
      refine lv_iload_n hx hb dX4_costAsTheyStand_47 rfl (lv_at hl 3 rfl) ?_
      obtain ⟨rfl, rfl⟩ := rt_ok hf
      exact hp_iret cx hB hr hlk (Nat.le_of_ble_eq_true rfl) (Nat.le_of_ble_eq_true rfl) dX4_costAsTheyStand_48
    · replace hf := it_f c3 hf
      refine lv_iload_n hx hb dX4_costAsTheyStand_16 rfl (lv_at hl 2 rfl) ?_
      refine lv_aload_n hx hb dX4_costAsTheyStand_17 rfl (lv_at hl 1 rfl) ?_
      obtain ⟨a4, q5, hf⟩ := bd_ok hf
      refine gf_X4_40 cx hB k2 q5 dX4_costAsTheyStand_18 ?_
      refine lv_iload hx hb dX4_costAsTheyStand_21 (lv_at hl 4 rfl) ?_
      obtain ⟨k6, hf⟩ := gk_ok hf
      obtain ⟨j7, hf⟩ := gd_ok hf
      obtain ⟨a8, q9, hf⟩ := bd_ok hf
      refine hp_aald cx hB 16 (.object RX3) (by decide) rfl rfl k6 j7 (o := some a8) q9.symm dX4_costAsTheyStand_23 ?_
      obtain ⟨k10, hf⟩ := gk_ok hf
      refine gf_X4_43 cx hB k10 dX4_costAsTheyStand_24 ?_
      refine lv_iadd hx hb dX4_costAsTheyStand_27 ?_
      obtain ⟨x11, ex11, hf⟩ := nm_ok hf
      refine lv_ren ex11 ?_
      refine lv_istore_n (lv' := [(2, .int x11), (0, .ref t0), (1, .ref a1), (3, .int v3), (4, .int v4)]) hx hb dX4_costAsTheyStand_28 rfl hl (by decide) rfl (fun ls hl => ?_)
      refine lv_iload_n hx hb dX4_costAsTheyStand_29 rfl (lv_at hl 3 rfl) ?_
      refine lv_aload_n hx hb dX4_costAsTheyStand_30 rfl (lv_at hl 1 rfl) ?_
      obtain ⟨k12, hf⟩ := gk_ok hf
      obtain ⟨a13, q14, hf⟩ := bd_ok hf
      refine gf_X4_9 cx hB k12 q14 dX4_costAsTheyStand_31 ?_
      refine lv_iload hx hb dX4_costAsTheyStand_34 (lv_at hl 4 rfl) ?_
      obtain ⟨k15, hf⟩ := gk_ok hf
      obtain ⟨j16, hf⟩ := gd_ok hf
      refine hp_iald cx hB k15 j16 dX4_costAsTheyStand_36 ?_
      refine lv_iload_n hx hb dX4_costAsTheyStand_37 rfl (lv_at hl 0 rfl) ?_
      refine lv_imul hx hb dX4_costAsTheyStand_38 ?_
      refine lv_iadd hx hb dX4_costAsTheyStand_39 ?_
      obtain ⟨x17, ex17, hf⟩ := nm_ok hf
      refine lv_ren ex17 ?_
      refine lv_istore_n (lv' := [(3, .int x17), (2, .int x11), (0, .ref t0), (1, .ref a1), (4, .int v4)]) hx hb dX4_costAsTheyStand_40 rfl hl (by decide) rfl (fun ls hl => ?_)
      obtain ⟨x18, ex18, hf⟩ := nm_ok hf
      refine lv_iinc (v := x18) (lv' := [(4, .int x18), (3, .int x17), (2, .int x11), (0, .ref t0), (1, .ref a1)]) hx hb dX4_costAsTheyStand_41 hl (k := 4) rfl (by rw [ex18]; rfl) (by decide) rfl (fun ls hl => ?_)
      refine lv_goto (tgt := 7) hx hb dX4_costAsTheyStand_44 (by decide) ?_
      exact ih t0 (some a1) x11 x17 x18 h _ _ _ hB (lv_sub hl [3, 4, 2, 1, 0] rfl) hf
set_option maxHeartbeats 4000000 in
set_option maxRecDepth 100000 in
theorem tX4_costAsTheyStand_0  {r : Int32} (cx : CallFix p m c prog_6_method_5_code 5 s args tbG RX4) (hr : meth.sig.returnType = (Option.some FieldType.int)) (hlk : meth.locks = false)  (t0 : Nat) (w1 : Option Nat) (h : Hp) (H : Heap) (locs : List Loc) (ls : Array Slot) (hB : hp_B D cA (hp_A h0) s h H locs) (hl : lv_has ls 5 [(0, .ref t0), (1, va_rf w1)]) (hf : fX4_costAsTheyStand  t0 w1 h = some (r, h9)) : W p l e rmX4_costAsTheyStand s m args below meth c H locs 0 0 (MQ below (hp_Qi D cA h0 h9 r) args s 0 0 (hp_A h0)) (F0 m 0 ls []) := by
  obtain ⟨hx, hb, -⟩ := id cx
  unfold fX4_costAsTheyStand at hf
  refine lv_iconst (v := 0) hx hb dX4_costAsTheyStand_0 (by decide) ?_
  refine lv_istore_n (lv' := [(2, .int 0), (0, .ref t0), (1, va_rf w1)]) hx hb dX4_costAsTheyStand_1 rfl hl (by decide) (by simp [List.filter, va_rf_cat, cat_i, cat_r, cat_n]) (fun ls hl => ?_)
  refine lv_iconst (v := 0) hx hb dX4_costAsTheyStand_2 (by decide) ?_
  refine lv_istore_n (lv' := [(3, .int 0), (2, .int 0), (0, .ref t0), (1, va_rf w1)]) hx hb dX4_costAsTheyStand_3 rfl hl (by decide) rfl (fun ls hl => ?_)
  refine lv_iconst (v := 0) hx hb dX4_costAsTheyStand_4 (by decide) ?_
  refine lv_istore (lv' := [(4, .int 0), (3, .int 0), (2, .int 0), (0, .ref t0), (1, va_rf w1)]) hx hb dX4_costAsTheyStand_5 hl (by decide) rfl (fun ls hl => ?_)
  exact tX4_costAsTheyStand_7 cx hr hlk  NF t0 w1 0 0 0 h _ _ _ hB (lv_sub hl [3, 4, 2, 1, 0] rfl) hf
end
set_option maxHeartbeats 4000000 in
set_option maxRecDepth 100000 in
theorem cX4_costAsTheyStand (l : Launch) (D : va_G) (cA : Nat → ClassId) (t0 : Nat) (w1 : Option Nat) (h : Hp) (r : Int32) (h9 : Hp) (hf : fX4_costAsTheyStand t0 w1 h = some (r, h9)) : hp_M l yX4_costAsTheyStand prog_6_method_5_code 5 (Option.some FieldType.int) rmX4_costAsTheyStand D cA h [.ref t0, va_rf w1] (hp_Qi D cA h h9 r) := by
  refine Met.ofW (cc := prog_6_method_5_code) (maxL := 5) (ret := (Option.some FieldType.int)) (by decide) rfl ?_
  intro p e s m args below meth c s₁ B hml hv
  obtain ⟨rfl, hU⟩ := hv
  have hts := atoms_spec (ws := Cond.code yX4_costAsTheyStand prog_6_method_5_code 5 (Option.some FieldType.int) :: tbG) B.pre
  have hl := lv_entry ([.ref t0, va_rf w1]) (n := 5) (by simp [lg_sl, va_rf_cat, cat_i, cat_r, cat_n])
  rw [show lv_args 0 ([.ref t0, va_rf w1]) = [(0, .ref t0), (1, va_rf w1)] by simp [lv_args, va_rf_cat, cat_i, cat_r, cat_n]] at hl
  rw [lg_entry_eq]
  generalize (lg_sl ([.ref t0, va_rf w1]) ++ List.replicate (5 - (lg_sl ([.ref t0, va_rf w1])).length) Slot.unset).toArray = ls at hl ⊢
  exact tX4_costAsTheyStand_0 ⟨B.exec, B.bytes, hml, findClass_of_methodNamed B.named, fun w hw => hts w (List.mem_cons_of_mem _ hw)⟩ B.returns B.notSynchronized t0 w1 h _ _ _ (hp_B.entry hU) hl hf
abbrev yX4_costSorted : MethodName := ⟨"SpokenMenus$Ordering", "costSorted", "(LSpokenMenus$Place;)I"⟩
theorem dX4_costSorted_0 : decode prog_6_method_6_code 0 = .ok (.iconst 0, 1) := by decide +kernel
theorem dX4_costSorted_1 : decode prog_6_method_6_code 1 = .ok (.istore_n 2, 1) := by decide +kernel
theorem dX4_costSorted_2 : decode prog_6_method_6_code 2 = .ok (.iconst 0, 1) := by decide +kernel
theorem dX4_costSorted_3 : decode prog_6_method_6_code 3 = .ok (.istore_n 3, 1) := by decide +kernel
theorem dX4_costSorted_4 : decode prog_6_method_6_code 4 = .ok (.iconst 0, 1) := by decide +kernel
theorem dX4_costSorted_5 : decode prog_6_method_6_code 5 = .ok (.istore 4, 2) := by decide +kernel
theorem dX4_costSorted_7 : decode prog_6_method_6_code 7 = .ok (.iload 4, 2) := by decide +kernel
theorem dX4_costSorted_9 : decode prog_6_method_6_code 9 = .ok (.aload_n 1, 1) := by decide +kernel
theorem dX4_costSorted_10 : decode prog_6_method_6_code 10 = .ok (.getfield 30, 3) := by decide +kernel
theorem dX4_costSorted_13 : decode prog_6_method_6_code 13 = .ok (.if_icmp .ge 44, 3) := by decide +kernel
theorem dX4_costSorted_16 : decode prog_6_method_6_code 16 = .ok (.iload_n 2, 1) := by decide +kernel
theorem dX4_costSorted_17 : decode prog_6_method_6_code 17 = .ok (.aload_n 1, 1) := by decide +kernel
theorem dX4_costSorted_18 : decode prog_6_method_6_code 18 = .ok (.getfield 40, 3) := by decide +kernel
theorem dX4_costSorted_21 : decode prog_6_method_6_code 21 = .ok (.aload_n 0, 1) := by decide +kernel
theorem dX4_costSorted_22 : decode prog_6_method_6_code 22 = .ok (.getfield 15, 3) := by decide +kernel
theorem dX4_costSorted_25 : decode prog_6_method_6_code 25 = .ok (.iload 4, 2) := by decide +kernel
theorem dX4_costSorted_27 : decode prog_6_method_6_code 27 = .ok (.iaload, 1) := by decide +kernel
theorem dX4_costSorted_28 : decode prog_6_method_6_code 28 = .ok (.aaload, 1) := by decide +kernel
theorem dX4_costSorted_29 : decode prog_6_method_6_code 29 = .ok (.getfield 43, 3) := by decide +kernel
theorem dX4_costSorted_32 : decode prog_6_method_6_code 32 = .ok (.iadd, 1) := by decide +kernel
theorem dX4_costSorted_33 : decode prog_6_method_6_code 33 = .ok (.istore_n 2, 1) := by decide +kernel
theorem dX4_costSorted_34 : decode prog_6_method_6_code 34 = .ok (.iload_n 3, 1) := by decide +kernel
theorem dX4_costSorted_35 : decode prog_6_method_6_code 35 = .ok (.aload_n 0, 1) := by decide +kernel
theorem dX4_costSorted_36 : decode prog_6_method_6_code 36 = .ok (.getfield 9, 3) := by decide +kernel
theorem dX4_costSorted_39 : decode prog_6_method_6_code 39 = .ok (.aload_n 0, 1) := by decide +kernel
theorem dX4_costSorted_40 : decode prog_6_method_6_code 40 = .ok (.getfield 15, 3) := by decide +kernel
theorem dX4_costSorted_43 : decode prog_6_method_6_code 43 = .ok (.iload 4, 2) := by decide +kernel
theorem dX4_costSorted_45 : decode prog_6_method_6_code 45 = .ok (.iaload, 1) := by decide +kernel
theorem dX4_costSorted_46 : decode prog_6_method_6_code 46 = .ok (.iaload, 1) := by decide +kernel
theorem dX4_costSorted_47 : decode prog_6_method_6_code 47 = .ok (.iload_n 2, 1) := by decide +kernel
theorem dX4_costSorted_48 : decode prog_6_method_6_code 48 = .ok (.imul, 1) := by decide +kernel
theorem dX4_costSorted_49 : decode prog_6_method_6_code 49 = .ok (.iadd, 1) := by decide +kernel
theorem dX4_costSorted_50 : decode prog_6_method_6_code 50 = .ok (.istore_n 3, 1) := by decide +kernel
theorem dX4_costSorted_51 : decode prog_6_method_6_code 51 = .ok (.iinc 4 1, 3) := by decide +kernel
theorem dX4_costSorted_54 : decode prog_6_method_6_code 54 = .ok (.goto (-47), 3) := by decide +kernel
theorem dX4_costSorted_57 : decode prog_6_method_6_code 57 = .ok (.iload_n 3, 1) := by decide +kernel
theorem dX4_costSorted_58 : decode prog_6_method_6_code 58 = .ok (.ireturn, 1) := by decide +kernel
abbrev rmX4_costSorted : Room := { frames := 0, cells := 0, slots := 0, locals := 0 }
def bX4_costSorted_7  (rc : Nat → Option Nat → Int32 → Int32 → Int32 → Hp → Option (Int32 × Hp)) (t0 : Nat) (w1 : Option Nat) (v2 : Int32) (v3 : Int32) (v4 : Int32) (h : Hp) : Option (Int32 × Hp) :=
  bd w1 fun a1 =>
  gk (h.1 a1) 6 <|
  if (h.2.2.1 a1 6) ≤ v4 then
  (some (v3, h))
  else
  (bd (h.2.2.2.1 a1 5) fun a4 =>
  gk (h.1 t0) 5 <|
  bd (h.2.2.2.1 t0 1) fun a7 =>
  gk (h.1 a7) 13 <|
  gd (ix v4 (h.2.1 a7)) <|
  gk (h.1 a4) 16 <|
  gd (ix (h.2.2.1 a7 v4.toNatClampNeg) (h.2.1 a4)) <|
  bd (h.2.2.2.1 a4 (h.2.2.1 a7 v4.toNatClampNeg).toNatClampNeg) fun a13 =>
  gk (h.1 a13) 4 <|
  nm (v2 + (h.2.2.1 a13 0)) fun x16 =>
  bd (h.2.2.2.1 t0 0) fun a17 =>
  gd (ix v4 (h.2.1 a7)) <|
  gk (h.1 a17) 13 <|
  gd (ix (h.2.2.1 a7 v4.toNatClampNeg) (h.2.1 a17)) <|
  nm (v3 + ((h.2.2.1 a17 (h.2.2.1 a7 v4.toNatClampNeg).toNatClampNeg) * x16)) fun x22 =>
  nm (v4 + 1) fun x23 =>
  rc t0 (some a1) x16 x22 x23 h)
def fX4_costSorted_7  : Nat → Option Nat → Int32 → Int32 → Int32 → Hp → Option (Int32 × Hp) := fx (bX4_costSorted_7 ) (fun _ _ _ _ _ _ => none) NF
def fX4_costSorted  (t0 : Nat) (w1 : Option Nat) (h : Hp) : Option (Int32 × Hp) :=
  fX4_costSorted_7  t0 w1 0 0 0 h
section
variable {p : Program} {l : Launch} {e : Env} {s : State} {m : MethodId} {args : Array Value} {below : List Frame} {meth : Method} {c : Code} {D : va_G} {cA : Nat → ClassId} {h0 h9 : Hp}
set_option maxHeartbeats 4000000 in
set_option maxRecDepth 100000 in
theorem tX4_costSorted_7  {r : Int32} (cx : CallFix p m c prog_6_method_6_code 5 s args tbG RX4) (hr : meth.sig.returnType = (Option.some FieldType.int)) (hlk : meth.locks = false)  (n : Nat) : ∀ (t0 : Nat) (w1 : Option Nat) (v2 : Int32) (v3 : Int32) (v4 : Int32) (h : Hp) (H : Heap) (locs : List Loc) (ls : Array Slot), hp_B D cA (hp_A h0) s h H locs → lv_has ls 5 [(0, .ref t0), (1, va_rf w1), (2, .int v2), (3, .int v3), (4, .int v4)] → fx (bX4_costSorted_7 ) (fun _ _ _ _ _ _ => none) n t0 w1 v2 v3 v4 h = some (r, h9) → W p l e rmX4_costSorted s m args below meth c H locs 0 0 (MQ below (hp_Qi D cA h0 h9 r) args s 0 0 (hp_A h0)) (F0 m 7 ls []) := by
  obtain ⟨hx, hb, -⟩ := id cx
  induction n with
  | zero => intro t0 w1 v2 v3 v4 h H locs ls hB hl hf; cases hf
  | succ n ih =>
    intro t0 w1 v2 v3 v4 h H locs ls hB hl hf
    replace hf : bX4_costSorted_7  (fx (bX4_costSorted_7 ) (fun _ _ _ _ _ _ => none) n) t0 w1 v2 v3 v4 h = some (r, h9) := hf
    unfold bX4_costSorted_7 at hf
    refine lv_iload hx hb dX4_costSorted_7 (lv_at hl 4 rfl) ?_
    refine lq_aload_n hx hb dX4_costSorted_9 rfl (lv_at hl 1 rfl) ?_
    obtain ⟨a1, eo, hf⟩ := bd_ok hf
    subst eo
    obtain ⟨k2, hf⟩ := gk_ok hf
    refine gf_X4_30 cx hB k2 dX4_costSorted_10 ?_
    refine lv_icmp_ge (tgt := 57) hx hb dX4_costSorted_13 (by decide) (fun c3 => ?_) (fun c3 => ?_)
    · replace hf := it_t c3 hf
      refine lv_iload_n hx hb dX4_costSorted_57 rfl (lv_at hl 3 rfl) ?_
      obtain ⟨rfl, rfl⟩ := rt_ok hf
      exact hp_iret cx hB hr hlk (Nat.le_of_ble_eq_true rfl) (Nat.le_of_ble_eq_true rfl) dX4_costSorted_58
    · replace hf := it_f c3 hf
      refine lv_iload_n hx hb dX4_costSorted_16 rfl (lv_at hl 2 rfl) ?_
      refine lv_aload_n hx hb dX4_costSorted_17 rfl (lv_at hl 1 rfl) ?_
      obtain ⟨a4, q5, hf⟩ := bd_ok hf
      refine gf_X4_40 cx hB k2 q5 dX4_costSorted_18 ?_
      refine lv_aload_n hx hb dX4_costSorted_21 rfl (lv_at hl 0 rfl) ?_
      obtain ⟨k6, hf⟩ := gk_ok hf
      obtain ⟨a7, q8, hf⟩ := bd_ok hf
      refine gf_X4_15 cx hB k6 q8 dX4_costSorted_22 ?_
      refine lv_iload hx hb dX4_costSorted_25 (lv_at hl 4 rfl) ?_
      obtain ⟨k9, hf⟩ := gk_ok hf
      obtain ⟨j10, hf⟩ := gd_ok hf
      refine hp_iald cx hB k9 j10 dX4_costSorted_27 ?_
      obtain ⟨k11, hf⟩ := gk_ok hf
      obtain ⟨j12, hf⟩ := gd_ok hf
      obtain ⟨a13, q14, hf⟩ := bd_ok hf
      refine hp_aald cx hB 16 (.object RX3) (by decide) rfl rfl k11 j12 (o := some a13) q14.symm dX4_costSorted_28 ?_
      obtain ⟨k15, hf⟩ := gk_ok hf
      refine gf_X4_43 cx hB k15 dX4_costSorted_29 ?_
      refine lv_iadd hx hb dX4_costSorted_32 ?_
      obtain ⟨x16, ex16, hf⟩ := nm_ok hf
      refine lv_ren ex16 ?_
      refine lv_istore_n (lv' := [(2, .int x16), (0, .ref t0), (1, .ref a1), (3, .int v3), (4, .int v4)]) hx hb dX4_costSorted_33 rfl hl (by decide) rfl (fun ls hl => ?_)
      refine lv_iload_n hx hb dX4_costSorted_34 rfl (lv_at hl 3 rfl) ?_
      refine lv_aload_n hx hb dX4_costSorted_35 rfl (lv_at hl 1 rfl) ?_
      obtain ⟨a17, q18, hf⟩ := bd_ok hf
      refine gf_X4_9 cx hB k6 q18 dX4_costSorted_36 ?_
      refine lv_aload_n hx hb dX4_costSorted_39 rfl (lv_at hl 1 rfl) ?_
      refine gf_X4_15 cx hB k6 q8 dX4_costSorted_40 ?_
      refine lv_iload hx hb dX4_costSorted_43 (lv_at hl 4 rfl) ?_
      obtain ⟨j19, hf⟩ := gd_ok hf
      refine hp_iald cx hB k9 j19 dX4_costSorted_45 ?_
      obtain ⟨k20, hf⟩ := gk_ok hf
      obtain ⟨j21, hf⟩ := gd_ok hf
      refine hp_iald cx hB k20 j21 dX4_costSorted_46 ?_
      refine lv_iload_n hx hb dX4_costSorted_47 rfl (lv_at hl 0 rfl) ?_
      refine lv_imul hx hb dX4_costSorted_48 ?_
      refine lv_iadd hx hb dX4_costSorted_49 ?_
      obtain ⟨x22, ex22, hf⟩ := nm_ok hf
      refine lv_ren ex22 ?_
      refine lv_istore_n (lv' := [(3, .int x22), (2, .int x16), (0, .ref t0), (1, .ref a1), (4, .int v4)]) hx hb dX4_costSorted_50 rfl hl (by decide) rfl (fun ls hl => ?_)
      obtain ⟨x23, ex23, hf⟩ := nm_ok hf
      refine lv_iinc (v := x23) (lv' := [(4, .int x23), (3, .int x22), (2, .int x16), (0, .ref t0), (1, .ref a1)]) hx hb dX4_costSorted_51 hl (k := 4) rfl (by rw [ex23]; rfl) (by decide) rfl (fun ls hl => ?_)
      refine lv_goto (tgt := 7) hx hb dX4_costSorted_54 (by decide) ?_
      exact ih t0 (some a1) x16 x22 x23 h _ _ _ hB (lv_sub hl [3, 4, 2, 1, 0] rfl) hf
set_option maxHeartbeats 4000000 in
set_option maxRecDepth 100000 in
theorem tX4_costSorted_0  {r : Int32} (cx : CallFix p m c prog_6_method_6_code 5 s args tbG RX4) (hr : meth.sig.returnType = (Option.some FieldType.int)) (hlk : meth.locks = false)  (t0 : Nat) (w1 : Option Nat) (h : Hp) (H : Heap) (locs : List Loc) (ls : Array Slot) (hB : hp_B D cA (hp_A h0) s h H locs) (hl : lv_has ls 5 [(0, .ref t0), (1, va_rf w1)]) (hf : fX4_costSorted  t0 w1 h = some (r, h9)) : W p l e rmX4_costSorted s m args below meth c H locs 0 0 (MQ below (hp_Qi D cA h0 h9 r) args s 0 0 (hp_A h0)) (F0 m 0 ls []) := by
  obtain ⟨hx, hb, -⟩ := id cx
  unfold fX4_costSorted at hf
  refine lv_iconst (v := 0) hx hb dX4_costSorted_0 (by decide) ?_
  refine lv_istore_n (lv' := [(2, .int 0), (0, .ref t0), (1, va_rf w1)]) hx hb dX4_costSorted_1 rfl hl (by decide) (by simp [List.filter, va_rf_cat, cat_i, cat_r, cat_n]) (fun ls hl => ?_)
  refine lv_iconst (v := 0) hx hb dX4_costSorted_2 (by decide) ?_
  refine lv_istore_n (lv' := [(3, .int 0), (2, .int 0), (0, .ref t0), (1, va_rf w1)]) hx hb dX4_costSorted_3 rfl hl (by decide) rfl (fun ls hl => ?_)
  refine lv_iconst (v := 0) hx hb dX4_costSorted_4 (by decide) ?_
  refine lv_istore (lv' := [(4, .int 0), (3, .int 0), (2, .int 0), (0, .ref t0), (1, va_rf w1)]) hx hb dX4_costSorted_5 hl (by decide) rfl (fun ls hl => ?_)
  exact tX4_costSorted_7 cx hr hlk  NF t0 w1 0 0 0 h _ _ _ hB (lv_sub hl [3, 4, 2, 1, 0] rfl) hf
end
set_option maxHeartbeats 4000000 in
set_option maxRecDepth 100000 in
theorem cX4_costSorted (l : Launch) (D : va_G) (cA : Nat → ClassId) (t0 : Nat) (w1 : Option Nat) (h : Hp) (r : Int32) (h9 : Hp) (hf : fX4_costSorted t0 w1 h = some (r, h9)) : hp_M l yX4_costSorted prog_6_method_6_code 5 (Option.some FieldType.int) rmX4_costSorted D cA h [.ref t0, va_rf w1] (hp_Qi D cA h h9 r) := by
  refine Met.ofW (cc := prog_6_method_6_code) (maxL := 5) (ret := (Option.some FieldType.int)) (by decide) rfl ?_
  intro p e s m args below meth c s₁ B hml hv
  obtain ⟨rfl, hU⟩ := hv
  have hts := atoms_spec (ws := Cond.code yX4_costSorted prog_6_method_6_code 5 (Option.some FieldType.int) :: tbG) B.pre
  have hl := lv_entry ([.ref t0, va_rf w1]) (n := 5) (by simp [lg_sl, va_rf_cat, cat_i, cat_r, cat_n])
  rw [show lv_args 0 ([.ref t0, va_rf w1]) = [(0, .ref t0), (1, va_rf w1)] by simp [lv_args, va_rf_cat, cat_i, cat_r, cat_n]] at hl
  rw [lg_entry_eq]
  generalize (lg_sl ([.ref t0, va_rf w1]) ++ List.replicate (5 - (lg_sl ([.ref t0, va_rf w1])).length) Slot.unset).toArray = ls at hl ⊢
  exact tX4_costSorted_0 ⟨B.exec, B.bytes, hml, findClass_of_methodNamed B.named, fun w hw => hts w (List.mem_cons_of_mem _ hw)⟩ B.returns B.notSynchronized t0 w1 h _ _ _ (hp_B.entry hU) hl hf
end
